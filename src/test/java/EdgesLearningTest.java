// Boundary cases of Terms 4 and promises 23 to 27: new LANGUAGES from what helped, and what they cost.
public final class EdgesLearningTest {
  private static void edge(String where, String sentence, String run) {
    Edge.edge(where, sentence, run);
  }

  private static void learnt() {
    edge("Terms 4, promise 23", "LEARNT: a new LANGUAGE from one and an ANSWER (a PROGRAM): HELPED: each ORDER of it (unlike "
        + "ones) has 1 bit less, if the sum still is 1 at most then, ORDERS by numbers;", """
        language(44444444) -> 0; program(7, 3, 7, 2, 7, 0)            # 7 three times: 1 bit less all the same
        helped(0) -> 1; of(1, {10..17}) -> 3 4 3 3 4 4 4 3; of(1, 1) -> 48
        helped(1) -> 2; of(2, {10..17}) -> 2 4 2 3 4 4 4 3            # by numbers: 0 comes to 56, 2 to 64: just 1
        of(2, 1) -> 64
        helped(2) -> 3; of(3, {10..17}) -> 2 4 2 3 4 4 4 3            # no room: a LANGUAGE all the same
        of(0, {10..17}) -> 4; looked(7, 3, 7, 2, 7, 0)
        """);
    edge("Terms 4, promise 23", "each ORDER of it (unlike ones) has 1 bit less, if the sum still is 1 at most then,", """
        language(16666666) -> 0; program(0); helped(0) -> 1; of(1, 10) -> 1    # 0 BITS would come to more than 1
        language(12445556) -> 2; program(7, 0); of(2, 1) -> 63
        helped(2) -> 3; of(3, {1 10 17}) -> 64 1 5                    # 63 and 1: just 1
        helped(3) -> 4; of(4, {1 10 17}) -> 64 1 5
        """);
    edge("Terms 4, promise 23", "ORDERS by numbers;", """
        language(24435366) -> 0; of(0, 1) -> 44; program(7, 3, 0)     # 0 needs 16, 3 needs 8, 7 needs 1
        helped(0) -> 1; of(1, {1 10 13 17}) -> 61 1 3 5               # 0 is first; 3 finds no room, 7 does
        """);
    edge("Terms 4, promise 23", "each ORDER of it (unlike ones) has 1 bit less,", """
        language(44444444) -> 0; program(1, 2, 3, 0); learn(0, 0, 2, 4) -> 1; program(8, 8, 0)
        helped(1) -> 2; of(2, {0 1 10 11 18}) -> 9 44 3 4 3; part(2, 8, {-1 0 1 2}) -> 3 1 2 3    # a PART is an ORDER
        """);
    edge("Terms 4, promise 24", "or a PART: the ORDERS at places i to j (2 to 4 of them, 1 .. 7 alone) of the PROGRAM become "
        + "a PART with told BITS.", """
        language(66666666) -> 0; program(1, 2, 3, 4, 5, 6, 7, 0)
        learn(0, 0, {-1 0 4 5 7}, 6) -> BAD; learn(0, 6, 7, 6) -> BAD     # 0 is among them
        learn(0, 0, 1, 6) -> 1; part(1, 8, {-1 0 1}) -> 2 1 2
        learn(0, 3, 6, 1) -> 2; part(2, 8, {-1 0 1 2 3}) -> 4 4 5 6 7; of({1 2}, 18) -> 6 1
        learn(1, 4, 6, 2) -> 3; part(3, {8 9}, -1) -> 2 3; of(3, {18 19}) -> 6 2; of(0, 0) -> 8
        """);
    edge("Terms 4, promise 25", "CHEAPER: SUM of a search in the one less that in the other one (PHASES to a told one).", """
        language(33333333) -> 0; language(32233666) -> 1; language(66666666) -> 2; text(n=1); task(0) -> 0
        cheaper(0, 1, 0, {6 7 14}) -> VOID 3 3                        # 11 and 8 STEPS, both in PHASE 7
        cheaper(1, 0, 0, {6 7 14}) -> VOID -3 -3
        cheaper({0 1}, 2, 0, {12 13 14}) -> VOID 0 0 VOID -3 -3       # PHASE 13
        """);
  }

  private static void prices() {
    edge("Terms 4, promise 26", "PRICE from a LANGUAGE to another one: the most, over ORDERS that both have (0 to 7), by which BITS "
        + "of the other one are more (may be below 0).", """
        language(33333333) -> 0; language(66666666) -> 1; language(16666666) -> 2; language(66666661) -> 3
        price(0, {0 1 2 3}) -> 0 3 3 3; price(1, {0 1 2 3}) -> -3 0 0 0; price(2, {0 1 2 3}) -> 2 5 0 5
        price(3, {0 1 2 3}) -> 2 5 5 0
        language(44444444) -> 4; price(1, 4) -> -2; price(4, 1) -> 2
        """);
    edge("Terms 4, promise 26", "over ORDERS that both have (0 to 7),", """
        language(44444444) -> 0; program(1, 2, 0); learn(0, 0, 1, 6) -> 1; learn(0, 0, 1, 1) -> 2
        price(1, 2) -> 0; price(2, 1) -> 0; price(0, 1) -> 0          # PARTS do not count
        """);
    edge("Terms 4, promise 27", "TRANSLATED: a PROGRAM of the one in the other one: PARTS written out; its SIZE there "
        + "(NOT: more than 12 ORDERS).", """
        language(44444444) -> 0; language(24354546) -> 1; program(1, 7, 6, 2, 0); learn(0, 0, 3, 4) -> 2; learn(2, 0, 1, 4) -> 3
        program(8, 3, 8, 0); translated(2, 1) -> 41; translated({2 3}, {0 2 3}) -> 40    # 17 and 5 and 17 and 2
        program(8, 3, 3, 3, 8, 0); translated(2, 0) -> 48             # 12 ORDERS
        program(8, 9, 3, 8, 0); translated(3, 0) -> 48                # 4, 2, 1, 4, 1: 12 ORDERS
        program(8, 9, 9, 8, 0); translated(3, 0) -> NOT               # 13
        program(8, 3, 3, 3, 3, 8, 0); translated(2, {0 1 2}) -> NOT
        program(8, 8, 8, 8, 8, 8, 8, 8, 8, 8, 8, 0); translated(2, 0) -> NOT    # 45
        """);
  }

  private static void promise23() {
    edge("Promise 23", "HELPED by the PROGRAM: the new LANGUAGE. BAD;", """
        language(44444444) -> 0; program(3, 0)
        helped({-1 1 6 LEAST MOST}) -> BAD; helped(0) -> 1; count(0) -> 2; of(1, {10..17}) -> 3 4 4 3 4 4 4 4
        clear(); helped(2) -> BAD                                     # named ahead of STATE
        """);
    edge("Promise 23", "STATE;", """
        language(44444444) -> 0; helped(0) -> STATE; program(1); helped(0) -> STATE; program(8, 0); helped(0) -> STATE
        12 x add(1); clear(); 12 x add(1); helped(0) -> STATE; count(0) -> 1
        """);
    edge("Promise 23", "FULL.", """
        5 x language(44444444); program(3, 0); helped(0) -> 5; helped({0 5}) -> FULL; helped(6) -> BAD
        program(3); helped(0) -> STATE; count(0) -> 6                 # named ahead of FULL
        """);
  }

  private static void promise24() {
    edge("Promise 24", "A PART of places i to j with BITS (1 .. 6): the new LANGUAGE.", """
        language(66666666) -> 0; program(1, 2, 3, 0)
        learn(0, 0, 1, {0 7 -1 LEAST MOST}) -> BAD; learn(0, 0, 1, {1 6}) -> 1 2; of({1 2}, 18) -> 1 6
        learn(0, 1, 2, 3) -> 3; part(3, 8, {0 1}) -> 2 3; looked(1, 2, 3, 0); count(0) -> 4
        language(21555556) -> 4; program(1, 1, 0); size(4) -> 4; learn(4, 0, 1, 6) -> 5; part(5, 8, {-1 0 1}) -> 2 1 1
        """);
    edge("Promise 24", "BAD (also ORDERS 0, 8 .. 11 among them, 4 PARTS);", """
        language(66666666) -> 0; program(1, 2, 3, 0)
        learn({-1 1 6 LEAST MOST}, 0, 1, 6) -> BAD
        learn(0, {-1 LEAST MOST}, {1 2 LEAST MOST}, 6) -> BAD; learn(0, {0 1}, {4 5 LEAST MOST}, 6) -> BAD
        learn(0, 1, {0 1}, 6) -> BAD; learn(0, 2, {1 3 4}, 6) -> BAD; learn(0, 3, 4, 6) -> BAD; learn(0, 4, 5, 6) -> BAD
        clear(); learn(0, 0, 1, 6) -> BAD; count(0) -> 1              # no such places: named ahead of STATE
        """);
    edge("Promise 24", "BAD (also ORDERS 0, 8 .. 11 among them, 4 PARTS);", """
        language(66666666) -> 0; program(1, 2, 0); learn(0, 0, 1, 6) -> 1; learn(1, 0, 1, 6) -> 2; learn(2, 0, 1, 6) -> 3
        program(8, 1, 9, 10, 2, 3, 0)
        learn(3, {0 1 2 3}, {1 2 3 4 5}, 6) -> BAD; learn(0, 0, 1, 6) -> BAD    # BAD is named ahead of STATE
        program(1, 11, 1, 2, 0); learn(3, {0 1}, {1 2}, 6) -> BAD; learn(3, 2, 3, 6) -> STATE    # it has no 11
        program(8, 1, 2, 0); learn(3, 1, 2, 6) -> 4; of(4, 0) -> 12
        learn(4, 1, 2, 6) -> BAD; clear(); learn(4, 1, 2, 6) -> BAD; count(0) -> 5
        """);
    edge("Promise 24", "STATE (also: the sum would be above 1);", """
        language(12445556) -> 0; program(1, 2, 3, 0)
        learn(0, 0, 1, {1 2 3 4 5 6}) -> STATE STATE STATE STATE STATE 1    # 63 and 1: just 1
        of(1, 1) -> 64; learn(1, 0, 1, 6) -> STATE
        language(44444444) -> 2; learn(2, 0, 1, 1) -> 3; of(3, 1) -> 64     # 32 and 32
        program(1, 2, 3); learn(2, 0, 1, 6) -> STATE; program(1, 2, 8, 0); learn(2, 0, 1, 6) -> STATE
        learn(3, 0, 1, 6) -> STATE; count(0) -> 4
        """);
    edge("Promise 24", "FULL.", """
        5 x language(44444444); program(1, 2, 0); learn(0, 0, 1, 1) -> 5; learn(0, 0, 1, 6) -> FULL
        learn(5, 0, 1, 6) -> STATE; learn(0, 0, 2, 6) -> BAD          # named ahead
        program(1, 2); learn(0, 0, 1, 6) -> STATE; count(0) -> 6
        """);
  }

  private static void promises25to27() {
    edge("Promise 25", "CHEAPER. VOID: BAD, or one finds none.", """
        language(33333333) -> 0; language(32233666) -> 1; text(n=1); task(0) -> 0; text(n=9); task(0) -> 1; program(5, 5)
        cheaper(0, 1, 0, {1 6 7 14}) -> VOID VOID 3 3
        cheaper(0, 1, 1, 14) -> VOID; cheaper(0, 0, {0 1}, 14) -> 0 VOID
        cheaper({-1 2 6 LEAST MOST}, 1, 0, 14) -> VOID; cheaper(0, {-1 2 6 LEAST MOST}, 0, 14) -> VOID
        cheaper(0, 1, {-1 2 10 LEAST MOST}, 14) -> VOID; cheaper(0, 1, 0, {-1 0 15 LEAST MOST}) -> VOID
        looked(5, 5); searched(0) -> BAD                              # it is no search()
        """);
    edge("Promise 26", "PRICE. VOID: BAD.", """
        language(33333333) -> 0; language(66666666) -> 1; price({0 1}, {0 1}) -> 0 3 -3 0
        price({-1 2 6 LEAST MOST}, 0) -> VOID; price(0, {-1 2 6 LEAST MOST}) -> VOID
        """);
    edge("Promise 27", "TRANSLATED (of ORDERS of the one; ORDERS 0 to 7 alone there). BAD;", """
        language(44444444) -> 0; program(1, 2, 0); learn(0, 0, 1, 2) -> 1
        translated(0, {0 1}) -> 12; program(8, 0); translated(1, {0 1}) -> 12; size(1) -> 6    # 8 is written out there, too
        translated({-1 2 6 LEAST MOST}, 0) -> BAD; translated(0, {-1 2 6 LEAST MOST}) -> BAD; looked(8, 0)
        """);
    edge("Promise 27", "STATE;", """
        language(44444444) -> 0; language(33333333) -> 1; translated(0, 1) -> STATE; program(1, 2); translated(0, 1) -> STATE
        program(8, 0); translated(0, 1) -> STATE; translated(0, 2) -> BAD
        program(1, 2, 3, 4, 0); learn(0, 0, 3, 4) -> 2; program(8, 0); translated({0 1 2}, 1) -> STATE STATE 15
        program(8, 8, 8, 8); translated(2, 1) -> STATE                # 16 ORDERS, but no PROGRAM: named ahead of NOT
        """);
    edge("Promise 27", "NOT.", """
        language(44444444) -> 0; program(1, 2, 3, 4, 0); learn(0, 0, 3, 4) -> 1
        program(8, 8, 1, 1, 1, 0); translated(1, 0) -> 48; program(8, 8, 1, 1, 1, 1, 0); translated(1, {0 1}) -> NOT
        program(8, 8, 8, 0); translated(1, 0) -> NOT; looked(8, 8, 8, 0)
        """);
  }

  public static void main(String[] args) {
    learnt();
    prices();
    promise23();
    promise24();
    promises25to27();
    Edge.end("Terms 4", "Promise 23", "Promise 24", "Promise 25", "Promise 26", "Promise 27");
  }
}
