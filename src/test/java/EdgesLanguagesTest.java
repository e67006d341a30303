// Boundary cases of Terms 1 and promises 1 to 12: languages, programs and the machine.
public final class EdgesLanguagesTest {
  private static void edge(String where, String sentence, String run) {
    Edge.edge(where, sentence, run);
  }

  private static void languages() {
    edge("Terms 1, promises 2, 3, 8, 23, 24", "LANGUAGES 0 .. 5, as they come:", """
        count(0) -> 0
        of(0, 0) -> BAD
        language(33333333) -> 0
        of(1, 0) -> BAD
        language(66666666) -> 1
        language(33333333) -> 2                  # one like another has a number of its own
        language(22344455) -> 3
        program(1, 2, 0); helped(1) -> 4; learn(1, 0, 1, 6) -> 5
        count(0) -> 6
        of({0..5}, 0) -> 8 8 8 8 8 9
        of({-1 6 7 LEAST MOST}, 0) -> BAD
        size({0..5}) -> 9 18 9 7 15 18
        size({-1 6 LEAST MOST}) -> BAD
        language(33333333) -> FULL; helped(1) -> FULL; learn(1, 0, 1, 6) -> FULL
        count(0) -> 6
        """);
    edge("Terms 1, promises 2, 3", "BITS of ORDERS 0 .. 7 (1 .. 6 each)", """
        language(16666666) -> 0; language(66666661) -> 1; language(66666666) -> 2; language(66616666) -> 3
        of(0, {10..17}) -> 1 6 6 6 6 6 6 6
        of(1, {10..17}) -> 6 6 6 6 6 6 6 1
        of(3, {10..17}) -> 6 6 6 1 6 6 6 6
        language({6666666 60666666 66066666 66606666 66660666 66666066 66666606 66666660}) -> BAD
        language({76666666 67666666 66766666 66676666 66667666 66666766 66666676 66666667}) -> BAD
        language({86666666 69666666 66866666 66696666 66668666 66666966 66666686 66666669}) -> BAD
        count(0) -> 4
        """);
    edge("Terms 1, promise 24", "and up to 4 PARTS (ORDERS 8 .. 11: rows of 2 to 4 of ORDERS 1 .. 7) with BITS of theirs.", """
        language(66666666) -> 0; program(1, 7, 3, 4, 5, 0)
        learn(0, 0, 0, 6) -> BAD; learn(0, 0, 4, 6) -> BAD           # 1 and 5 of them
        learn(0, 0, 1, 6) -> 1; learn(1, 0, 2, 5) -> 2; learn(2, 0, 3, 4) -> 3; learn(3, 1, 2, 3) -> 4
        part(4, {7..12}, -1) -> BAD 2 3 4 2 BAD
        of(4, {10..22}) -> 6 6 6 6 6 6 6 6 6 5 4 3 BAD
        learn(4, 0, 1, 6) -> BAD                                      # a 5th PART
        part(3, 11, -1) -> BAD; of(4, 0) -> 12
        """);
    edge("Terms 1, promises 2, 23, 24", "The sum of 1 / 2 to the BITS over all ORDERS is 1 at most.", """
        language(12345666) -> STATE                                   # 65 / 64
        language(12445555) -> 0; of(0, 1) -> 64                       # 1
        language(12445556) -> 1; of(1, 1) -> 63
        language(33333333) -> 2; language(33333332) -> STATE
        program(1, 2, 0)
        learn(1, 0, 1, 5) -> STATE; learn(1, 0, 1, 6) -> 3; of(3, 1) -> 64
        learn(3, 0, 1, 6) -> STATE; learn(0, 0, 1, 6) -> STATE
        helped(2) -> 4; of(4, {1 10 11 12}) -> 64 3 3 3
        """);
  }

  private static void codes() {
    edge("Terms 1, promise 3", "CODES: ORDERS by BITS, of like ones by numbers: the first one has all 0; each next one the "
        + "one ahead and 1 (as a number), with 0s behind it to its BITS.", """
        language(33333333) -> 0; of(0, {30..37}) -> 0..7              # like ones by numbers, the last one all 1
        language(12445555) -> 1; of(1, {30..37}) -> 0 2 12 13 28 29 30 31
        language(65432266) -> 2; of(2, {30..37}) -> 46 22 10 4 0 1 47 48
        language(66666661) -> 3; of(3, {30..37}) -> 32 33 34 35 36 37 38 0
        language(66666666) -> 4; of(4, {30..37}) -> 0..7              # all 0 at first, though of 6 bits
        """);
    edge("Terms 1, promises 3, 24", "CODES: ORDERS by BITS, of like ones by numbers:", """
        language(33444444) -> 0; program(1, 2, 3, 0)                  # 40 / 64
        learn(0, 0, 1, 3) -> 1; of(1, {30..38}) -> 0 1 6 7 8 9 10 11 2    # the PART behind like ones, ahead of longer ones
        learn(1, 1, 2, 2) -> 2; of(2, {30..39}) -> 2 3 10 11 12 13 14 15 4 0
        of(2, 1) -> 64
        """);
  }

  private static void programs() {
    edge("Terms 1, promises 6, 8", "A PROGRAM is a row of ORDERS of a LANGUAGE, 1 to 12, the last one 0, none of the others 0;", """
        language(33333333) -> 0
        size(0) -> STATE                                              # no ORDERS
        add(0) -> 1; size(0) -> 3
        add(0) -> BAD; add(1) -> BAD                                  # 0 is the last one
        program(1); size(0) -> STATE
        program(1, 2, 3, 4, 5, 6, 7, 1, 2, 3, 4, 0); order(-1) -> 12; size(0) -> 36
        program(1, 2, 3, 4, 5, 6, 7, 1, 2, 3, 4, 5); size(0) -> STATE
        add(0) -> FULL; size(0) -> STATE                              # a 13th
        program(8, 0); size(0) -> STATE                               # no ORDER of that LANGUAGE
        """);
    edge("Terms 1, promise 8", "its SIZE is the sum of their BITS.", """
        language(16666666) -> 0; language(66666666) -> 1; language(65432266) -> 2
        program(0); size({0 1 2}) -> 1 6 6                            # the least
        program(7, 7, 7, 7, 7, 7, 7, 7, 7, 7, 7, 0); size({0 1 2}) -> 67 72 72    # the most
        program(1, 2, 3, 4, 5, 6, 7, 0); size(2) -> 34
        """);
    edge("Terms 1, promise 12", "PROGRAMS are in order by SIZE, of like ones by their bits as a number.", """
        language(22344455) -> 0                                       # 00 01 100 1010 1011 1100 11010 11011
        next(0) -> 2; looked(0)
        next(0) -> 4; looked(1, 0)
        next(0) -> 5; looked(2, 0)
        next(0) -> 6; looked(1, 1, 0)                                 # 010100
        next(0) -> 6; looked(3, 0)                                    # 101000
        next(0) -> 6; looked(4, 0)                                    # 101100
        next(0) -> 6; looked(5, 0)                                    # 110000
        next(0) -> 7; looked(1, 2, 0)                                 # 0110000
        next(0) -> 7; looked(2, 1, 0)                                 # 1000100
        next(0) -> 7; looked(6, 0)                                    # 1101000
        next(0) -> 7; looked(7, 0)                                    # 1101100
        next(0) -> 8; looked(1, 1, 1, 0)
        """);
  }

  private static void machine() {
    edge("Terms 1, promises 10, 11", "THE MACHINE: A is the input (0 .. 999), B is 0.", """
        language(33333333) -> 0; program(4, 0)
        run(0, 0, 0) -> 2; ran({1 2}) -> 0 0
        run(0, 999, 0) -> 2; ran({1 2}) -> 999 0
        run(0, 999, 1) -> 2; ran({1 2}) -> 0 999
        run(0, {-1 1000 LEAST MOST}, 1) -> BAD
        """);
    edge("Terms 1, promises 10, 24", "ORDERS one behind the other (a PART's in its place), 1 STEP each:", """
        language(44444444) -> 0; program(1, 2, 2, 1, 3, 0); learn(0, 0, 3, 3) -> 1; learn(1, 0, 1, 4) -> 2
        program(1, 8, 9, 3, 0)                                        # 1, 1 2 2 1, 1 2, 3, 0
        run(2, 0, {8 9}) -> 2 0; ran({0 1 2 3 10 11}) -> 9 20 0 1 20 BAD
        run(2, 0, 4) -> 2; ran({0 1 3}) -> 4 8 0                      # within the PART
        program(8, 8, 8, 8, 8, 8, 8, 8, 8, 8, 8, 0)                   # 11 times 4, and END
        run(2, 0, 44) -> 2; run(2, 0, 45) -> 0; ran({0 3}) -> 45 0
        """);
    edge("Terms 1, promise 10", "0 END: it ENDS.", """
        language(33333333) -> 0; program(0)
        run(0, 5, 0) -> 2; run(0, 5, 1) -> 0; run(0, 5, 999) -> 0; ran({0..3}) -> 1 5 0 0
        """);
    edge("Terms 1, promise 10", "1 ONE: A is (A + 1) % 1000.", """
        language(33333333) -> 0; program(1, 0)
        run(0, 0, 1) -> 2; ran(1) -> 1
        run(0, 998, 1) -> 2; ran(1) -> 999
        run(0, 999, 1) -> 2; ran(1) -> 0
        """);
    edge("Terms 1, promise 10", "2 TWICE: A is A * 2 % 1000.", """
        language(33333333) -> 0; program(2, 0)
        run(0, 0, 1) -> 2; ran(1) -> 0
        run(0, 499, 1) -> 2; ran(1) -> 998
        run(0, 500, 1) -> 2; ran(1) -> 0
        run(0, 999, 1) -> 2; ran(1) -> 998
        """);
    edge("Terms 1, promises 10, 11", "3 SAY: A is printed (the 9th time it ENDS instead).", """
        language(33333333) -> 0; program(3, 3, 3, 3, 3, 3, 3, 3, 0)
        run(0, 999, 99) -> 0; ran({0 3 10 17 18}) -> 9 8 999 999 BAD  # 8 times, and END
        program(3, 3, 3, 3, 3, 3, 3, 3, 3, 1, 1, 0)
        run(0, 4, 8) -> 2; ran({0 3}) -> 8 8
        run(0, 4, 9) -> 0; run(0, 4, 99) -> 0; ran({0 1 3}) -> 9 4 8
        """);
    edge("Terms 1, promise 10", "4 SWAP: A and B change places.", """
        language(33333333) -> 0; program(4, 1, 4, 0)
        run(0, 999, 1) -> 2; ran({1 2}) -> 0 999
        run(0, 999, 9) -> 0; ran({1 2}) -> 999 1
        """);
    edge("Terms 1, promise 10", "5 ADD: A is (A + B) % 1000.", """
        language(33333333) -> 0; program(5, 0)
        run(0, 999, 1) -> 2; ran(1) -> 999                            # B is 0
        program(4, 1, 5, 0)
        run(0, 998, 9) -> 0; ran({1 2}) -> 999 998
        run(0, 999, 9) -> 0; ran({1 2}) -> 0 999
        """);
    edge("Terms 1, promise 10", "6 BACK: if A is below 20 it goes on at the first ORDER.", """
        language(33333333) -> 0; program(1, 6, 0)
        run(0, 18, 99) -> 0; ran({0 1}) -> 5 20                       # 19 goes back, 20 does not
        run(0, 19, 99) -> 0; ran({0 1}) -> 3 20
        run(0, 999, 99) -> 0; ran({0 1}) -> 43 20                     # 0 goes back at first
        """);
  }

  private static void skips() {
    edge("Terms 1, promises 10, 24", "7 SKIP: if A is odd, the next ORDER (of a PART: the next one in it, or what is behind it) "
        + "is passed over (no STEP).", """
        language(44444444) -> 0; program(7, 3, 1, 7, 0); learn(0, 0, 2, 3) -> 1; learn(1, 2, 3, 3) -> 2
        program(7, 3, 0)
        run(0, 0, 9) -> 0; ran({0 3}) -> 3 1
        run(0, 1, 9) -> 0; ran({0 3}) -> 2 0
        run(0, 998, 9) -> 0; ran({0 3}) -> 3 1
        run(0, 999, 9) -> 0; ran({0 3}) -> 2 0
        program(8, 0)                                                 # 7 3 1 0: the next one in the PART
        run(2, 4, 9) -> 0; ran({0 1 3}) -> 4 5 1
        run(2, 5, 9) -> 0; ran({0 1 3}) -> 3 6 0
        program(9, 3, 1, 0)                                           # 1 7 3 1 0: what is behind the PART
        run(2, 5, 9) -> 0; ran({0 1 3}) -> 5 7 1
        run(2, 4, 9) -> 0; ran({0 1 3}) -> 4 6 0
        """);
    edge("Terms 1, promise 10", "Behind the last ORDER it ENDS (without a STEP).", """
        language(33333333) -> 0; program(7, 0)
        run(0, 1, 0) -> 2; run(0, 1, 1) -> 0; ran(0) -> 1
        run(0, 0, 1) -> 2; run(0, 0, 2) -> 0; ran(0) -> 2             # A is even: END is the 2nd STEP
        program(1, 7, 0)
        run(0, 0, 1) -> 2; run(0, 0, 2) -> 0; run(0, 0, 999) -> 0; ran({0 1}) -> 2 1
        """);
    edge("Terms 1, promises 10, 24", "Behind the last ORDER it ENDS (without a STEP).", """
        language(44444444) -> 0; program(1, 7, 0); learn(0, 0, 1, 3) -> 1
        program(8, 0)                                                 # 1 7 0: SKIP of the PART, ahead of END
        run(1, 0, 2) -> 0; ran(0) -> 2
        """);
  }

  private static void hangs() {
    edge("Terms 1, promise 10", "It HANGS (for sure), if by BACK it comes to the first ORDER with A and B as at the beginning, "
        + "or at an earlier such time, and nothing was printed since then.", """
        language(33333333) -> 0; program(6, 0)
        run(0, 0, 0) -> 2; run(0, 0, 1) -> 1; ran(0) -> 1             # as at the beginning, by the first STEP
        run(0, 19, 1) -> 1; run(0, 20, 1) -> 2; run(0, 20, 2) -> 0
        program(2, 6, 0)                                              # (500, 0), (0, 0), (0, 0)
        run(0, 500, 3) -> 2; run(0, 500, 4) -> 1; run(0, 500, 999) -> 1; ran({0 1 2}) -> 4 0 0
        program(4, 6, 0)                                              # (5, 0), (0, 5), (5, 0)
        run(0, 5, 3) -> 2; run(0, 5, 4) -> 1; ran({1 2}) -> 5 0
        run(0, 25, 99) -> 0; ran({0 1 2}) -> 5 25 0                   # (25, 0), (0, 25), and 25 goes on to END
        program(4, 1, 4, 6, 0)                                        # A as at the beginning, B is not
        run(0, 5, 999) -> 2; ran({0 1 2}) -> 999 5 250
        """);
    edge("Terms 1, promise 10", "and nothing was printed since then.", """
        language(33333333) -> 0; program(3, 6, 0)
        run(0, 5, 16) -> 2; run(0, 5, 17) -> 0; ran({0 3}) -> 17 8    # like times, but each prints
        program(7, 3, 7, 1, 6, 0)                                     # (2, 0) prints; (3, 0) then, and (3, 0)
        run(0, 2, 5) -> 2; run(0, 2, 7) -> 2; run(0, 2, 8) -> 1; ran({0 1 3}) -> 8 3 1
        program(3, 2, 7, 6, 0)                                        # 500 printed, then 0, 0, 0 ..
        run(0, 500, 33) -> 0; ran({0 3}) -> 33 8
        """);
  }

  private static void promises1to4() {
    edge("Promise 1", "No languages, no tasks.", """
        count({0..4}) -> 0
        of({-1 0 5}, 0) -> BAD; part(0, 8, -1) -> BAD; size(0) -> BAD; read(0, 0, 0) -> BAD; run(0, 0, 1) -> BAD
        next(0) -> BAD; passes(0, 0, 1) -> BAD; search(0, 0, 1) -> BAD; votes(0, 1001, 2, 0) -> BAD
        shortest(0, 1001, 2) -> BAD; census(0, 1001, 0, 0) -> BAD; helped(0) -> BAD; learn(0, 0, 1, 6) -> BAD
        translated(0, 0) -> BAD; keep(0, 0) -> BAD; ran(0) -> BAD; searched(0) -> BAD; trace(0) -> BAD
        cheaper(0, 0, 0, 1) -> VOID; price(0, 0) -> VOID
        act(0, 0, 5) -> 0; order(-1) -> 0; clear() -> 0; unsay() -> 0
        taken({0..5}, 0) -> -11; keep({0..5}, -1) -> 1
        language(33333333) -> 0; passes(0, 0, 1) -> BAD; search(0, 0, 1) -> BAD; cheaper(0, 0, 0, 1) -> VOID
        """);
    edge("Promise 2", "A LANGUAGE by BITS of ORDERS 0 .. 7 as digits (1 .. 6; ORDER 0 the highest of 8): its number. BAD;", """
        language({0 1 -1 8 12345 LEAST MOST}) -> BAD
        language({3333333 333333333 1333333333 -33333333}) -> BAD     # 7, 9, 10 digits, and below 0
        language({11111110 66666667 66666670 100000000 9999999}) -> BAD
        language(11111111) -> STATE                                   # the least one of digits 1 .. 6: no longer BAD
        language(66666666) -> 0                                       # the most
        language(21555556) -> 1; of(1, {10..17}) -> 2 1 5 5 5 5 5 6
        count(0) -> 2
        """);
    edge("Promise 2", "STATE: the sum is above 1;", """
        language({11111111 22222222 12345666 11666666 22333334}) -> STATE
        count(0) -> 0
        language(12445555) -> 0; of(0, 1) -> 64; language(22333344) -> STATE
        language(22444444) -> 1; of(1, 1) -> 56
        """);
    edge("Promise 2", "FULL.", """
        language(33333333) -> 0; 4 x language(66666666); language(66666666) -> 5
        language(33333333) -> FULL; count(0) -> 6
        language({33333330 0 LEAST MOST}) -> BAD                      # named ahead
        language(11111111) -> STATE                                   # named ahead
        """);
    edge("Promise 3", "Of a LANGUAGE: 0 ORDERS that it has, 1 64 times the sum; 10 and ORDER: its BITS; 30 and ORDER: "
        + "its CODE as a number. BAD (also an ORDER that it has not).", """
        language(65432266) -> 0; program(1, 2, 0); learn(0, 0, 1, 6) -> 1; learn(1, 0, 1, 6) -> 2; learn(2, 0, 1, 6) -> 3
        learn(3, 0, 1, 6) -> 4; language(33333333) -> 5
        of({0..5}, 0) -> 8 9 10 11 12 8; of({0..5}, 1) -> 49 50 51 52 53 64
        of(0, {-1 2 9 10 17 18 21 22}) -> BAD BAD BAD 6 6 BAD BAD BAD
        of(0, {29 30 37 38 41 42}) -> BAD 46 48 BAD BAD BAD
        of(4, {10 17 18 21 22}) -> 6 6 6 6 BAD; of(4, {29 30 37 38 41 42}) -> BAD 46 48 49 52 BAD
        of(0, {LEAST MOST}) -> BAD; of({-1 6 LEAST MOST}, {0 1 10 30}) -> BAD
        """);
    edge("Promise 4", "ORDER i of a PART (8 .. 11); how many (i -1). BAD.", """
        language(44444444) -> 0; program(1, 7, 6, 5, 0); learn(0, 0, 3, 5) -> 1; learn(1, 1, 2, 3) -> 2
        learn(2, 0, 2, 4) -> 3; learn(3, 2, 3, 6) -> 4
        part(4, {8..11}, -1) -> 4 2 3 2
        part(4, 8, {0..4}) -> 1 7 6 5 BAD; part(4, 9, {0..2}) -> 7 6 BAD; part(4, 11, {0..2}) -> 6 5 BAD
        part(4, 8, {-2 LEAST MOST}) -> BAD
        part(4, {-1 0 7 12 LEAST MOST}, {-1 0}) -> BAD
        part({0 5 -1 6 LEAST MOST}, 8, {-1 0}) -> BAD                 # 0 has no PARTS, 5 is not there
        part({1 2 3}, {9 10 11}, -1) -> BAD BAD BAD 2 BAD BAD 2 3 BAD
        """);
  }

  private static void promises5to8() {
    edge("Promise 5", "The PROGRAM that is looked at becomes empty: how many ORDERS it had.", """
        clear() -> 0; clear() -> 0
        add(5); clear() -> 1; order(-1) -> 0; order(0) -> BAD
        12 x add(11); clear() -> 12; clear() -> 0
        """);
    edge("Promise 6", "An ORDER (0 .. 11) comes to it: how many it has.", """
        add(11) -> 1; add(1) -> 2; add(0) -> 3; looked(11, 1, 0)
        """);
    edge("Promise 6", "BAD (also behind ORDER 0),", """
        add({-1 12 100 LEAST MOST}) -> BAD; order(-1) -> 0
        add(0) -> 1; add({0..11}) -> BAD; add({-1 12}) -> BAD; looked(0)
        program(1, 0); add({0 1}) -> BAD; looked(1, 0)
        """);
    edge("Promise 6", "FULL: 12.", """
        11 x add(1); add(2) -> 12
        add({0 1 11}) -> FULL; order({-1 11 12}) -> 12 2 BAD
        add({-1 12 LEAST MOST}) -> BAD                                # named ahead
        program(1, 1, 1, 1, 1, 1, 1, 1, 1, 1, 1, 0); add({0 1}) -> BAD    # behind ORDER 0: named ahead
        """);
    edge("Promise 7", "ORDER i of it; how many (i -1). BAD.", """
        order({-2 -1 0 1 11 12 LEAST MOST}) -> BAD 0 BAD BAD BAD BAD BAD BAD
        add(7); order({-2 -1 0 1}) -> BAD 1 7 BAD
        11 x add(3); order({-2 -1 0 1 11 12 LEAST MOST}) -> BAD 12 7 3 3 BAD BAD BAD
        """);
    edge("Promise 8", "SIZE of it in a LANGUAGE. BAD;", """
        program(0); size({0 -1 6 LEAST MOST}) -> BAD
        language(33333333) -> 0; size({0 1 -1 LEAST MOST}) -> 3 BAD BAD BAD BAD
        clear(); size(1) -> BAD                                       # named ahead of STATE
        """);
    edge("Promise 8", "STATE: it is no PROGRAM of that (ORDER 0 is not the last one; an ORDER that it has not).", """
        language(44444444) -> 0; size(0) -> STATE; program(1, 2, 0); learn(0, 0, 1, 3) -> 1; size({0 1}) -> 12
        program(1, 2); size({0 1}) -> STATE
        program(8, 0); size({0 1}) -> STATE 7
        program(9, 0); size({0 1}) -> STATE
        program(11, 0); size({0 1}) -> STATE
        program(8); size(1) -> STATE
        """);
  }

  private static void promise9() {
    edge("Promise 9", "It is read FROM A ROW on a SHELF, from place i on: its SIZE.", """
        language(22344455) -> 0                                       # 00 01 100 1010 1011 1100 11010 11011
        bits(5, 1101001100101000)
        read(0, 5, 0) -> 16; looked(6, 1, 2, 3, 0)
        read(0, 5, 14) -> 2; looked(0)                                # the last places
        row(0, 4, 60) -> 1; read(0, 0, 0) -> 2; read(0, 0, 58) -> 2
        put(0, 56, 1); read(0, 0, 56) -> NOT; read(0, 0, 55) -> 4; looked(1, 0)
        """);
    edge("Promise 9", "BAD,", """
        row(0, 4, 60); read(0, 0, 0) -> BAD; language(22344455) -> 0
        read({-1 1 6 LEAST MOST}, 0, 0) -> BAD; read(0, {-1 6 LEAST MOST}, 0) -> BAD
        read({-1 1}, {0 1}, {-1 60}) -> BAD                           # named ahead of all others
        read(0, 0, 0) -> 2
        """);
    edge("Promise 9", "-12 (no ROW of booleans; a SHELF that holds nothing is missing);", """
        language(22344455) -> 0
        read(0, {0..5}, {0 -1 60 LEAST MOST}) -> NOT
        row({0 1 2 3}, 0, 60); row(1, 1, 60); row(2, 2, 60); row(3, 3, 60); row(4, 4, 60); keep(5, 0)
        read(0, {0..5}, 0) -> -12 -12 -12 -12 2 -12
        read(0, {0 1 2 3 5}, {-1 60 LEAST MOST}) -> -12               # whatever the place
        row(0, 3, 0) -> 1; read(0, 0, 0) -> -12                       # of no elements
        keep(5, -1); read(0, 5, 0) -> NOT
        """);
    edge("Promise 9", "NOT, STATE (it stays then).", """
        language(22344455) -> 0; program(5, 5); row(0, 4, 0) -> 1; read(0, 0, {0 -1 1 LEAST MOST}) -> NOT
        bits(1, 01111111); read(0, 1, 0) -> STATE; read(0, 1, 1) -> STATE; read(0, 1, {-1 8 LEAST MOST}) -> NOT
        looked(5, 5)
        """);
    edge("Promise 9", "NOT, STATE (it stays then).", """
        language(33333333) -> 0; program(5, 5)
        bits(1, 00100100100100100100100100100100)                     # ten times ONE, and two bits
        read(0, 1, 0) -> NOT; read(0, 1, {30 31 32}) -> NOT
        bits(2, 001001001001001001001001001001001000)                 # 11 times ONE, and END: 12 ORDERS
        bits(3, 001001001001001001001001001001001001000)              # a 13th
        read(0, 3, 0) -> STATE; looked(5, 5)
        read(0, 2, 0) -> 36; looked(1, 1, 1, 1, 1, 1, 1, 1, 1, 1, 1, 0)
        read(0, 3, 3) -> 36
        """);
  }

  private static void promises10to12() {
    edge("Promise 10", "It runs with an input for t (0 .. 999) STEPS at most: 0 ENDED, 1 HANGS, 2 not settled. BAD;", """
        language(33333333) -> 0; program(4, 1, 4, 6, 0)
        run(0, 0, {-1 1000 LEAST MOST}) -> BAD; run(0, {-1 1000 LEAST MOST}, 0) -> BAD
        run({-1 1 6 LEAST MOST}, 0, 9) -> BAD; ran(0) -> BAD
        run(0, 0, 0) -> 2; ran(0) -> 0
        run(0, 0, 999) -> 2; ran(0) -> 999
        program(6, 0); run(0, 999, 999) -> 0; run(0, 0, 999) -> 1
        program(1, 6, 0); run(0, 0, 40) -> 2; run(0, 0, 41) -> 0; looked(1, 6, 0)
        """);
    edge("Promise 10", "STATE.", """
        language(33333333) -> 0; run(0, 0, 9) -> STATE; program(1, 1); run(0, 0, 9) -> STATE
        program(8, 0); run(0, 0, 9) -> STATE
        run(1, 0, 9) -> BAD; run(0, 1000, 9) -> BAD; run(0, 0, 1000) -> BAD    # named ahead
        ran(0) -> BAD
        """);
    edge("Promise 11", "Of the latest run() that was not refused: 0 STEPS, 1 A, 2 B, 3 how many were printed, "
        + "10 and i: the i-th.", """
        language(33333333) -> 0; program(3, 1, 3, 4, 0); run(0, 999, 99) -> 0
        ran({0..3}) -> 5 0 0 2; ran({10 11}) -> 999 0
        run(0, 7, 99) -> 0; run(0, 7, 1000) -> BAD; run(1, 8, 9) -> BAD; clear(); run(0, 8, 9) -> STATE
        ran({0 1 2 3 10 11}) -> 5 0 8 2 7 8
        program(0); run(0, 6, 0) -> 2; ran({0 1 2 3 10}) -> 0 6 0 0 BAD
        """);
    edge("Promise 11", "BAD (also before any).", """
        ran({0 1 2 3 10}) -> BAD; language(33333333) -> 0; program(3, 6, 0); ran(0) -> BAD; run(0, 0, -1) -> BAD; ran(0) -> BAD
        run(0, 3, 99) -> 0
        ran({-1 4 9 18 19 LEAST MOST}) -> BAD; ran({3 10 17}) -> 8 3 3
        """);
    edge("Promise 12", "The next PROGRAM in order in a LANGUAGE (of the empty one the first): its SIZE; it is looked at then. BAD;", """
        language(16666666) -> 0; language(66666666) -> 1
        next(0) -> 1; looked(0); clear(); next(1) -> 6; looked(0)
        next(0) -> 7; looked(1, 0); next(1) -> 12; looked(2, 0)       # the first of the next SIZE; the next of a like one
        next({-1 2 6 LEAST MOST}) -> BAD; looked(2, 0)
        clear(); next(2) -> BAD; looked()
        """);
    edge("Promise 12", "STATE: as in size() (not of the empty one);", """
        language(33333333) -> 0; program(1); next(0) -> STATE; program(8, 0); next(0) -> STATE
        12 x add(1); clear(); 12 x add(1); next(0) -> STATE; next(1) -> BAD
        clear(); next(0) -> 3
        """);
    edge("Promise 12", "NOT: none to SIZE 14.", """
        language(26666666) -> 0; language(66666666) -> 1; language(21555555) -> 2
        program(7, 0); next(0) -> 14; looked(1, 1, 0)
        program(7, 6, 0); next(0) -> 14; looked(7, 7, 0); next(0) -> NOT; looked(7, 7, 0)
        program(1, 1, 1, 0); size(0) -> 20; next(0) -> NOT; size(1) -> 24; next(1) -> NOT; looked(1, 1, 1, 0)
        program(7, 0); next(1) -> NOT; size(1) -> 12
        program(1, 1, 1, 1, 1, 1, 1, 1, 1, 1, 1, 0)                   # SIZE 13 of 12 ORDERS: 13 would be no PROGRAM
        size(2) -> 13; next(2) -> 13; looked(1, 1, 1, 1, 1, 1, 2, 0)
        """);
  }

  public static void main(String[] args) {
    languages();
    codes();
    programs();
    machine();
    skips();
    hangs();
    promises1to4();
    promises5to8();
    promise9();
    promises10to12();
    Edge.end("Terms 1", "Promise 1", "Promise 2", "Promise 3", "Promise 4", "Promise 5", "Promise 6", "Promise 7", "Promise 8",
        "Promise 9", "Promise 10", "Promise 11", "Promise 12");
  }
}
