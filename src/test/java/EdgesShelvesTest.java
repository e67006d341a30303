// Boundary cases of Terms 5 and promises 28 to 36: acts and shelves.
public final class EdgesShelvesTest {
  /** ORDERS 0 .. 7 have 2 2 3 4 4 4 5 5 BITS; LANGUAGE 1 has PART 8, too, of 3 BITS. */
  private static final String WITH_A_PART = "language(22344455) -> 0; program(1, 2, 0); learn(0, 0, 1, 3) -> 1\n";

  private static void edge(String where, String sentence, String run) {
    Edge.edge(where, sentence, run);
  }

  private static void acts() {
    edge("Terms 5, promise 28", "ACTS of ORDERS (BODIES 0 .. 11 of a LANGUAGE;", """
        language(66666666) -> 0; program(1, 2, 0); learn(0, 0, 1, 5) -> 1; learn(1, 0, 1, 4) -> 2; learn(2, 0, 1, 3) -> 3
        learn(3, 0, 1, 2) -> 4
        act({0 1 7}, 0, 100) -> 100 102 107; act({7 8 11 12}, 2, 0) -> 21 0 0 0
        act({408 409 410 411 412}, 0, 100) -> 109 110 111 112 0
        act({408 409 410 411}, 1, 100) -> 545 440 333 224             # by their BITS: 5, 4, 3, 2
        act({108 109}, 0, 100) -> 109 0
        """);
    edge("Terms 5, promises 30, 35", "KINDS: 0 ORDER; 1 ENDS (ORDER 0) under ORDER; 2 DOES under ORDER (1, 2, 5); 3 SAYS under "
        + "DOES (3); 4 TURNS under DOES (4); 5 JUMPS under ORDER (6, 7); 6 PART under JUMPS (8 to 11))", WITH_A_PART + """
        keep(0, 0); taken(0, {0..6}) -> 1 1 -12 -12 -12 -12 -12
        keep(0, 1); taken(0, {0..6}) -> 2 -12 2 -12 -12 -12 -12; keep(0, 2); taken(0, {0..6}) -> 2 -12 2 -12 -12 -12 -12
        keep(0, 5); taken(0, {0..6}) -> 2 -12 2 -12 -12 -12 -12
        keep(0, 3); taken(0, {0..6}) -> 3 -12 3 3 -12 -12 -12; keep(0, 4); taken(0, {0..6}) -> 4 -12 4 -12 4 -12 -12
        keep(0, 6); taken(0, {0..6}) -> 5 -12 -12 -12 -12 5 -12; keep(0, 7); taken(0, {0..6}) -> 5 -12 -12 -12 -12 5 -12
        keep(0, 108); taken(0, {0..6}) -> 6 -12 -12 -12 -12 6 6
        """);
    edge("Terms 5, promise 35", "6 PART under JUMPS (8 to 11))", """
        language(66666666) -> 0; program(1, 2, 0); learn(0, 0, 1, 6) -> 1; learn(1, 0, 1, 6) -> 2; learn(2, 0, 1, 6) -> 3
        learn(3, 0, 1, 6) -> 4; keep({0 1 2 3}, 0)
        keep(0, 408) -> 1; keep(1, 409) -> 1; keep(2, 410) -> 1; keep(3, 411) -> 1; keep(4, 407) -> 1; keep(5, 412) -> BAD
        taken({0..4}, 0) -> 6 6 6 6 5; taken({0..4}, 5) -> 6 6 6 6 5; taken({0..4}, 6) -> 6 6 6 6 -12
        """);
    edge("Terms 5, promise 28", "with x (an int that wraps):", WITH_A_PART + """
        act(1, 0, {LEAST MOST}) -> -2147483646 -2147483647
        act(0, 1, {LEAST MOST}) -> 0 -2; act(0, 2, {LEAST MOST}) -> LEAST -2147483647; act(0, 3, {LEAST MOST}) -> 1 -1
        act(6, 2, {LEAST MOST}) -> -2147483630 2147483627
        act(108, 0, {LEAST MOST}) -> -2147483639 -2147483640; act(108, 1, {LEAST MOST}) -> -2147483621 -2147483624
        act(3, 3, {LEAST MOST}) -> 20 16; act(4, 3, {LEAST MOST}) -> 9 13
        act(5, 1, {536870906 536870905 536870911}) -> LEAST 2147483644 -2147483628    # (x + 6) * 4
        """);
    acts("0 steps, 1 costs, 2 goes, 3 tells;", "1", "102 204 101 204", "0", "100 200 -100 201");
    acts("n its number, s its BITS.", "2", "103 309 102 306", "5", "106 424 97 420");
    acts("BODIES of acts: STEPS (an interface of ORDER): 1 steps: x + n. ORDER: 10 costs: steps(x) * s. 11 goes: x ^ n. "
        + "TELLS (of ORDER): 2 tells: costs(x) - goes(1).", "7", "107 535 297 517", "5", "106 424 97 420");
    acts("ENDS: 20 goes: -super.goes(x).", "0", "100 200 -100 201", "1", "102 204 101 204");
    acts("DOES: 30 steps: super.steps(x) + 1.", "1", "102 204 101 204", "2", "103 309 102 306");
    acts("SAYS: 40 costs: super.costs(x) + steps(2).", "3", "104 422 103 420", "4", "105 420 96 409");
    acts("TURNS: 50 tells: super.tells(x) ^ 6.", "4", "105 420 96 409", "3", "104 422 103 420");
    acts("JUMPS: 60 goes: super.goes(x) * 3.", "6", "106 530 294 509", "7", "107 535 297 517");
    acts("PART: 70 steps: super.steps(x + 1). 71 goes: super.goes(x) - costs(1).", "108", "109 327 294 330", "7", "107 535 297 517");
    acts("steps(..) and so on: the body of its own KIND, or of the next KIND above that has one; super: from the KIND above "
        + "the body's on.", "108", "109 327 294 330", "3", "104 422 103 420");
  }

  /** Each ORDER's four acts with 100. */
  private static void acts(String sentence, String one, String answers, String other, String others) {
    edge("Terms 5, promise 28", sentence, WITH_A_PART + "act(" + one + ", {0..3}, 100) -> " + answers
        + "\nact(" + other + ", {0..3}, 100) -> " + others);
  }

  private static void traces() {
    edge("Terms 5, promises 29, 36", "THE TRACE: numbers of the bodies that ran in the latest act(), as they began; the first 24 "
        + "are kept.", WITH_A_PART + """
        act(108, 3, 5) -> 45; count(4) -> 10; trace({0..9}) -> 2 10 70 1 71 60 11 10 70 1
        trace({-1 10 23 24 LEAST MOST}) -> BAD
        act(3, 3, 5) -> 40; count(4) -> 8; trace({0..8}) -> 2 40 10 30 1 30 1 11 BAD
        act(4, 3, 5) -> 37; count(4) -> 6; trace({0..6}) -> 50 2 10 30 1 11 BAD
        act(7, 2, 5) -> 6; count(4) -> 2; trace({0..2}) -> 60 11 BAD
        act(0, 0, 5) -> 5; count(4) -> 1; trace({0 1}) -> 1 BAD
        """);
    edge("Promise 28", "An ACT (0 .. 3) of an ORDER (100 times the LANGUAGE, and the ORDER) with x.", WITH_A_PART + """
        4 x language(66666666); count(0) -> 6; act({507 500 600 508}, 0, 7) -> 14 7 0 0
        act({101 108 109 199 200}, 0, 7) -> 9 16 0 0 7
        act(1, {0..3}, 7) -> 9 18 6 18; act(501, 1, 7) -> 54
        """);
    edge("Promise 28", "0, and no TRACE then: no such ORDER, ACT.", WITH_A_PART + """
        act(108, 3, 1); act(8, 3, 1) -> 0; count(4) -> 0; trace(0) -> BAD
        act(108, 3, 1); act(12, 3, 1) -> 0; count(4) -> 0; act(108, 3, 1); act(109, 3, 1) -> 0; count(4) -> 0
        act(108, 3, 1); act(200, 3, 1) -> 0; count(4) -> 0; act(108, 3, 1); act(-1, 3, 1) -> 0; count(4) -> 0
        act(108, 3, 1); act(-100, 3, 1) -> 0; count(4) -> 0; act(108, 3, 1); act(LEAST, 3, 1) -> 0; count(4) -> 0
        act(108, 3, 1); act(MOST, 3, 1) -> 0; count(4) -> 0; act(108, 3, 1); act(99, 3, 1) -> 0; count(4) -> 0
        act(108, 3, 1); act(1, 4, 1) -> 0; count(4) -> 0; trace(0) -> BAD; act(108, 3, 1); act(1, -1, 1) -> 0; count(4) -> 0
        act(108, 3, 1); act(1, LEAST, 1) -> 0; count(4) -> 0; act(108, 3, 1); act(1, MOST, 1) -> 0; count(4) -> 0
        """);
    edge("Promise 29", "THE TRACE's i-th body. BAD.", WITH_A_PART + """
        trace({-1 0 LEAST MOST}) -> BAD; act(1, 0, 5) -> 7; trace({-1 0 1 2 23 24 LEAST MOST}) -> BAD 30 1 BAD BAD BAD BAD BAD
        """);
  }

  private static void shelves() {
    edge("Terms 5, promises 30 to 35", "SHELVES 0 .. 5 each hold nothing (at first), an ORDER of a LANGUAGE, or a ROW:", """
        taken({0..5}, 0) -> -11; put({0..5}, 0, 1) -> -11; element({0..5}, 0) -> LEAST_LONG
        language(33333333) -> 0; keep(5, 3) -> 1; row(4, 0, 1) -> 1
        taken({0..5}, 0) -> -11 -11 -11 -11 -12 3; put({4 5}, 0, 7) -> 1 -12; element({4 5}, 0) -> 7 LEAST_LONG
        row(5, 2, 1) -> 1; keep(4, 0) -> 1; taken({4 5}, 0) -> 1 -12; put({4 5}, 0, 7) -> -12 1    # one thing each
        keep({4 5}, -1) -> 1; taken({4 5}, 0) -> -11; put({4 5}, 0, 7) -> -11
        taken({-1 6 LEAST MOST}, 0) -> BAD; put({-1 6 LEAST MOST}, 0, 1) -> BAD; element({-1 6 LEAST MOST}, 0) -> LEAST_LONG
        keep({-1 6 LEAST MOST}, -1) -> BAD; keep({-1 6}, 3) -> BAD; row({-1 6 LEAST MOST}, 0, 1) -> BAD
        """);
    edge("Terms 5, promises 31 to 33", "of 0 bytes, 1 shorts, 2 ints, 3 longs, 4 booleans, of 0 .. 60 elements, 0 at first (false);", """
        row(0, {0..4}, {0 60}) -> 1; row(0, {-1 5 LEAST MOST}, 60) -> BAD; row(0, {0..4}, {61 MOST}) -> BAD
        element(0, {0 59}) -> 0; element(0, 60) -> LEAST_LONG; put(0, {0 59 60}, 1) -> 1 1 -13; element(0, {0 58 59}) -> 1 0 1
        row(0, 4, 60) -> 1; element(0, {0 59}) -> 0                   # a new ROW
        row(1, 3, 0) -> 1; put(1, 0, 1) -> -13; element(1, 0) -> LEAST_LONG; taken(1, 0) -> -12
        row(2, 0, 2) -> 1; element(2, {0 1 2}) -> 0 0 LEAST_LONG; row(3, 1, 1) -> 1; element(3, 0) -> 0
        row(4, 2, 1) -> 1; element(4, 0) -> 0
        """);
    keeps("what is put in keeps its lowest bits", 0, "127 128 255 256 -128 -129 -256 LEAST_LONG MOST_LONG 4294967424",
        "127 -128 -1 0 -128 127 0 0 -1 -128");
    keeps("what is put in keeps its lowest bits", 1, "32767 32768 65535 65536 -32768 -32769 LEAST_LONG MOST_LONG 128",
        "32767 -32768 -1 0 -32768 32767 0 -1 128");
    keeps("what is put in keeps its lowest bits", 2, "2147483647 2147483648 4294967295 4294967296 -2147483648 -2147483649 "
        + "LEAST_LONG MOST_LONG", "2147483647 -2147483648 -1 0 -2147483648 2147483647 0 -1");
    keeps("what is put in keeps its lowest bits", 3, "0 -1 2147483648 -2147483649 4294967296 LEAST_LONG MOST_LONG",
        "0 -1 2147483648 -2147483649 4294967296 LEAST_LONG MOST_LONG");
    keeps("(a boolean: whether it is not 0; 1 or 0).", 4, "0 1 2 -1 256 4294967296 LEAST_LONG MOST_LONG 0", "0 1 1 1 1 1 1 1 0");
  }

  /** Each value is put and asked again, at the last place of a ROW of 60. */
  private static void keeps(String sentence, int sort, String values, String kept) {
    StringBuilder run = new StringBuilder("row(0, " + sort + ", 60) -> 1\n");
    String[] in = values.split(" ");
    String[] out = kept.split(" ");
    for (int i = 0; i < in.length; i++) run.append("put(0, 59, " + in[i] + ") -> 1; element(0, {58 59}) -> 0 " + out[i] + "\n");
    edge("Terms 5, promises 32, 33", sentence, run.toString());
  }

  private static void refusals() {
    edge("Terms 5, promises 32 to 35", "The host's REFUSALS: -11 nothing is there where something is wanted;", """
        row(0, 2, 3); put(1, 0, 1) -> -11; put(1, {-1 60}, 1) -> -11; element(1, 0) -> LEAST_LONG; taken(1, 0) -> -11
        shift(0, 0, 1, 0, 1) -> -11; shift(1, 0, 0, 0, 1) -> -11; shift(1, 0, 1, 0, 0) -> -11
        """);
    edge("Terms 5, promises 32 to 35", "-12 it is of another kind;", """
        language(33333333) -> 0; row(0, 2, 3); row(2, 3, 3); keep(1, 3); put(1, {0 -1 60}, 1) -> -12
        element(1, 0) -> LEAST_LONG; taken(0, 0) -> -12; taken(1, {1 4 5 6}) -> -12; shift(0, 0, {1 2}, 0, 1) -> -12
        shift({1 2}, 0, 0, 0, 1) -> -12; shift(1, 0, 1, 0, 0) -> -12
        """);
    edge("Terms 5, promises 32 to 34", "-13 a place that is not there;", """
        row(0, 2, 3); put(0, {-1 3 60 LEAST MOST}, 1) -> -13; element(0, {-1 3 LEAST MOST}) -> LEAST_LONG; put(0, {0 2}, 1) -> 1
        shift(0, {-1 3 4 LEAST MOST}, 0, 0, 1) -> -13; shift(0, 0, 0, {-1 3 4 LEAST MOST}, 1) -> -13; shift(0, 0, 0, 0, 4) -> -13
        """);
    edge("Terms 5, promise 31", "-14 a size below 0.", """
        row(0, 2, 3); put(0, 2, 7); row(0, {0..4}, {-1 LEAST}) -> -14; element(0, 2) -> 7; row(0, 0, 0) -> 1
        """);
    edge("Terms 5, promise 9", "BITS FROM A ROW of booleans, from a place on, are read as a PROGRAM of a LANGUAGE: CODE by CODE till "
        + "ORDER 0;", """
        language(22344455) -> 0                                       # 00 01 100 1010 1011 1100 11010 11011
        bits(0, 0110010101011110011010110110011)
        read(0, 0, 0) -> 29; looked(1, 2, 3, 4, 5, 6, 7, 0)           # what is behind ORDER 0 is not read
        read(0, 0, 22) -> 7; looked(7, 0); read(0, 0, 2) -> 27; looked(2, 3, 4, 5, 6, 7, 0)
        row(1, 4, 2) -> 1; read(0, 1, 0) -> 2; looked(0)
        put(1, 1, 256) -> 1; read(0, 1, 0) -> NOT; put(1, 1, 0) -> 1; read(0, 1, 0) -> 2    # not 0 is true
        """);
    edge("Terms 5, promise 9", "the host refuses where the row is missing, or ends: NOT;", """
        language(22344455) -> 0; program(7); read(0, {0 5}, 0) -> NOT
        row(0, 4, 0); read(0, 0, {0 1 -1 LEAST MOST}) -> NOT
        bits(0, 0); read(0, 0, {0 1 -1 LEAST MOST}) -> NOT            # within a CODE
        bits(0, 01); read(0, 0, 0) -> NOT                             # behind one
        bits(0, 0100); read(0, 0, {0 2}) -> 4 2; program(7); read(0, 0, {1 3 4 5 -1}) -> NOT; looked(7)
        row(1, 4, 60); put(1, {58 59}, 1); read(0, 1, {57 58 59 60}) -> NOT; read(0, 1, 56) -> 2
        """);
    edge("Terms 5, promise 9", "what is no CODE, or a 13th ORDER: STATE.", """
        language(22344455) -> 0; language(66666666) -> 1; program(7)  # 111 begins no CODE of 0; 1 has 0 to 7
        bits(0, 111111); read(0, 0, 0) -> STATE; bits(0, 01111000); read(0, 0, 0) -> STATE
        bits(1, 000111001000); read({0 1}, 1, 0) -> 2 STATE; program(7); read(1, 1, 6) -> STATE
        bits(1, 000111000000); read(1, 1, 0) -> 12; looked(7, 0)
        """);
    edge("Terms 5, promise 9", "what is no CODE, or a 13th ORDER: STATE.", """
        language(22344455) -> 0; program(7)
        bits(0, 01010101010101010101010100); read(0, 0, 0) -> STATE; looked(7)    # 12 times ONE, and END
        read(0, 0, 2) -> 24; looked(1, 1, 1, 1, 1, 1, 1, 1, 1, 1, 1, 0)
        bits(0, 01010101010101010101010101); read(0, 0, 0) -> STATE; read(0, 0, {2 24}) -> NOT
        """);
  }

  private static void promises30and31() {
    edge("Promise 30", "A SHELF holds nothing (order -1), or an ORDER (as in act()): 1. BAD.", WITH_A_PART + """
        keep(0, {8 12 99 109 200 600 -2 -100 LEAST MOST}) -> BAD; taken(0, 0) -> -11
        keep(0, {0 7 100 107 108}) -> 1; taken(0, 0) -> 6; keep(0, {8 -2}) -> BAD; taken(0, 0) -> 6
        keep({-1 6 LEAST MOST}, {-1 0}) -> BAD; keep(0, -1) -> 1; keep(0, -1) -> 1; taken(0, 0) -> -11
        row(0, 2, 5); keep(0, 109) -> BAD; put(0, 4, 1) -> 1; keep(0, 3) -> 1; put(0, 4, 1) -> -12
        """);
    edge("Promise 31", "A SHELF holds a ROW: 1. BAD (sort, n above 60);", """
        row({0 5}, {0 4}, {0 1 60}) -> 1
        row({-1 6 LEAST MOST}, 0, 1) -> BAD; row(0, {-1 5 LEAST MOST}, 1) -> BAD; row(0, 0, {61 MOST}) -> BAD
        row(0, {-1 5}, -1) -> BAD; row(6, 0, -1) -> BAD               # named ahead of -14
        put(0, 59, 1) -> 1; element(0, 59) -> 1
        """);
    edge("Promise 31", "-14.", "row(0, {0..4}, {-1 -60 LEAST}) -> -14; taken(0, 0) -> -11; row(0, 0, 0) -> 1");
  }

  private static void promises32and33() {
    edge("Promise 32", "Element i of a ROW becomes v: 1. BAD, -11, -12, -13.", """
        language(33333333) -> 0; row(0, 3, 60); row(1, 2, 0); keep(2, 5)
        put(0, 0, LEAST_LONG) -> 1; put(0, 59, MOST_LONG) -> 1; element(0, {0 1 59}) -> LEAST_LONG 0 MOST_LONG
        put({-1 6 LEAST MOST}, {-1 0}, 1) -> BAD; put(3, {-1 0 60}, 1) -> -11; put(2, {-1 0 60}, 1) -> -12
        put(0, {-1 60 LEAST MOST}, 1) -> -13; put(1, {-1 0 LEAST MOST}, 1) -> -13
        """);
    edge("Promise 33", "Element i of a ROW; Long.MIN_VALUE: BAD, -11 to -13.", """
        language(33333333) -> 0; row(0, 0, 60); row(1, 2, 0); keep(2, 5); put(0, {0 59}, -1) -> 1
        element(0, {0 1 58 59}) -> -1 0 0 -1; element(0, {-1 60 LEAST MOST}) -> LEAST_LONG; element(1, {-1 0}) -> LEAST_LONG
        element({-1 6 LEAST MOST}, 0) -> LEAST_LONG; element(3, {-1 0}) -> LEAST_LONG; element(2, {-1 0}) -> LEAST_LONG
        """);
  }

  private static void promise34() {
    edge("Promise 34", "n elements of a ROW from i on come to another one (or the same) from j on, as they all were before: n.", """
        row(0, 1, 5); row(1, 1, 3); put(0, 0, 1); put(0, 1, 2); put(0, 2, 3); put(0, 3, 4); put(0, 4, 5)
        shift(0, 0, 0, 1, 4) -> 4; element(0, {0..4}) -> 1 1 2 3 4    # upwards over itself
        shift(0, 1, 0, 0, 4) -> 4; element(0, {0..4}) -> 1 2 3 4 4    # downwards over itself
        shift(0, 2, 1, 0, 3) -> 3; element(1, {0 1 2}) -> 3 4 4; element(0, {0..4}) -> 1 2 3 4 4
        shift(0, 0, 0, 0, 5) -> 5; element(0, {0..4}) -> 1 2 3 4 4    # all of it, to where it is
        shift(0, 5, 1, 3, 0) -> 0; shift(0, 0, 0, 0, 0) -> 0; element(1, {0 1 2}) -> 3 4 4
        """);
    edge("Promise 34", "n elements of a ROW from i on come to another one (or the same) from j on, as they all were before: n.", """
        row({0 1}, 4, 60); put(0, {0 59}, 1); shift(0, 0, 1, 0, 60) -> 60; element(1, {0 1 58 59}) -> 1 0 0 1
        row({2 3}, 3, 2); put(2, 0, LEAST_LONG); put(2, 1, MOST_LONG); shift(2, 0, 3, 0, 2) -> 2
        element(3, {0 1}) -> LEAST_LONG MOST_LONG; row({4 5}, 0, 0); shift(4, 0, 5, 0, 0) -> 0
        """);
    edge("Promise 34", "BAD, -11 (either), -12 (no ROWS, or of unlike sorts), -13.", """
        language(33333333) -> 0; row(0, 2, 3); row(1, 3, 3); keep(2, 5); put(0, {0 1 2}, 7)
        shift({-1 6 LEAST MOST}, 0, {0 3}, 0, 1) -> BAD; shift({0 3}, 0, {-1 6 LEAST MOST}, 0, 1) -> BAD
        shift({0 1 2 3}, 9, 3, 9, -1) -> -11; shift(3, 9, {0 1 2}, 9, -1) -> -11    # ahead of -12 and -13
        shift(2, 9, {0 1 2}, 9, -1) -> -12; shift({0 1}, 9, 2, 9, -1) -> -12; shift(0, 9, 1, 9, -1) -> -12    # ahead of -13
        shift(1, 0, 0, 0, 0) -> -12; element(0, {0 1 2}) -> 7
        """);
    edge("Promise 34", "-13.", """
        row(0, 2, 3); row(1, 2, 2); put(0, {0 1 2}, 7)
        shift(0, {-1 LEAST MOST}, 1, 0, {0 1 2}) -> -13; shift(0, 0, 1, {-1 LEAST MOST}, {0 1 2}) -> -13
        shift(0, 0, 1, 0, {3 MOST -1 LEAST}) -> -13; shift(1, 0, 0, 0, {3 MOST -1 LEAST}) -> -13
        shift(0, {2 3}, 1, 0, 2) -> -13; shift(0, 0, 1, {1 2}, 2) -> -13; shift(0, 4, 1, 0, 0) -> -13; shift(0, 0, 1, 3, 0) -> -13
        shift(0, MOST, 1, MOST, MOST) -> -13; shift(0, 1, 1, 1, MOST) -> -13
        element(1, {0 1}) -> 0; shift(0, 1, 1, 0, 2) -> 2; shift(0, 3, 1, 2, 0) -> 0; element(1, {0 1}) -> 7
        """);
  }

  private static void promises35and36() {
    edge("Promise 35", "What a SHELF holds, taken for an ORDER of KIND k (0 .. 6), or under it: its KIND. BAD, -11, -12.", WITH_A_PART + """
        keep(0, 108); row(1, 4, 5); taken(0, {-1 0 5 6 7 LEAST MOST}) -> BAD 6 6 6 BAD BAD BAD
        taken({-1 6 LEAST MOST}, {0 7}) -> BAD; taken({1 2}, {-1 7}) -> BAD    # BAD ahead of -11, -12
        taken(1, {0..6}) -> -12; taken(2, {0..6}) -> -11; taken(0, {1 2 3 4}) -> -12
        """);
    edge("Promise 36", "How many: 0 LANGUAGES, 1 TASKS, 2 bytes on THE TAPE, 3 numbers of the row, 4 bodies that ran in the latest "
        + "act() (all, kept or not). BAD.", """
        count({0..4}) -> 0; count({-1 5 LEAST MOST}) -> BAD
        5 x language(33333333); program(1, 2, 0); helped(0) -> 5; count(0) -> 6; language(33333333) -> FULL; count(0) -> 6
        text(n=1); task(0) -> 0; text(n=1); task(0) -> 1; task(0) -> -100; count(1) -> 2
        15 x feed(4, 0); count(2) -> 60; feed(1, 0) -> FULL; count(2) -> 60
        8 x say(5); count(3) -> 8; say(5) -> FULL; count(3) -> 8; unsay(); count(3) -> 0
        act(3, 3, 5); count(4) -> 8; act(3, 4, 5); count(4) -> 0; count({0..4}) -> 6 2 60 0 0
        """);
  }

  public static void main(String[] args) {
    acts();
    traces();
    shelves();
    refusals();
    promises30and31();
    promises32and33();
    promise34();
    promises35and36();
    Edge.end("Terms 5", "Promise 28", "Promise 29", "Promise 30", "Promise 31", "Promise 32", "Promise 33", "Promise 34",
        "Promise 35", "Promise 36");
  }
}
