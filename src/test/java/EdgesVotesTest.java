// Boundary cases of Terms 3 and promises 18 to 22: votes, shortest ones, the census.
public final class EdgesVotesTest {
  private static void edge(String where, String sentence, String run) {
    Edge.edge(where, sentence, run);
  }

  private static void votes() {
    edge("Terms 3, promises 18, 20, 36", "VOTES: a row of numbers told (0 .. 8; 0 .. 999 each), input 0;", """
        language(33333333) -> 0
        votes(0, 9016, 2, 0) -> 20                                    # no numbers: all that print one
        told(0, 0, 0, 0, 0, 0, 0); count(3) -> 7
        votes(0, 9014, {2 3}, 0) -> 0 2                               # 3 6 0 has not the 8th yet; 1 6 0 is open, too
        votes(0, 9015, {2 3}, 0) -> 1 1
        say(0) -> 8; say(0) -> FULL                                   # all 8: the 9th SAY prints nothing
        votes(0, {9016 9017 9200}, 2, 0) -> 0; votes(0, 9200, 1, 0) -> NOT
        votes(0, {9016 9017 9040 9041}, 3, 0) -> 2 1 1 0
        told(999, 0); votes(0, 12200, {2 3}, 0) -> 0                  # with input 0 none prints it
        """);
    edge("Terms 3, promise 20", "all PROGRAMS of a LANGUAGE to SIZE n (1 .. 12) that print these first, within t STEPS "
        + "(1 .. 200), and one more within these, vote for that: 2 to the (n - SIZE).", """
        language(33333333) -> 0
        votes(0, {1001 5001 6001 9001 12001}, 2, 0) -> 0 0 1 15 169   # all that begin with SAY: 64 + 7 * 8 + 49
        votes(0, {1001 5001 6001 9001 12001}, 3, 0) -> 0 0 5 75 845   # those that begin with 1, 2, 4, 5, 7
        votes(0, {9001 9002 9200}, 0, 1) -> 0 1 1                     # 1 3 0 prints at STEP 2
        votes(0, {8200 9200 10200}, 0, 1) -> 0 1 2                    # its SIZE is 9
        told(0); votes(0, {9001 9002 9200}, 0, 0) -> 0 1 2            # 3 3 0; 3 6 0 at STEP 3
        votes(0, {9002 9003}, 2, 0) -> 1 2
        """);
    edge("Terms 3, promise 20", "all PROGRAMS of a LANGUAGE to SIZE n (1 .. 12)", """
        language(26666626) -> 0; votes(0, {1200 2200 7200 8200 9200}, 2, 0) -> 0 0 0 1 2    # 3 0 has 8 bits
        votes(0, {10200 11200 12200}, 2, 0) -> 5 10 21                # 3 6 0 has 10, 3 6 6 0 12
        language(36136666) -> 1; votes(1, {3200 5200 6200 7200}, 2, 0) -> 0 0 1 4    # 3 0; 2 3 0 and 3 2 0 have 7
        """);
    edge("Terms 3, promise 20", "VOTES of a number; MOST: the number with the most (of like ones the least); ALL: of all numbers;", """
        language(33333333) -> 0; told(1)
        votes(0, 12050, 0, {0 1 2 3}) -> 0 1 1 0                      # 1 3 3 0 and 1 3 6 0
        votes(0, 12050, {1 2}, 0) -> 1 2                              # like ones: 1 is the least
        votes(0, 12003, {1 2}, 0) -> 1 1                              # 1 3 6 0 prints 2 at STEP 5
        votes(0, 12002, {1 2}, 0) -> NOT 0
        told(1, 2); votes(0, 12050, 0, {2 3 999}) -> 0 1 0; votes(0, 12050, {1 2}, 0) -> 3 1
        unsay(); votes(0, 9100, 0, {0 1 2 999}) -> 19 1 0 0; votes(0, 9100, {1 2}, 0) -> 0 20
        """);
    edge("Terms 3, promise 20", "OPEN: of those that printed a beginning of the row (perhaps all of it) till then and did not END or HANG;", """
        language(33333333) -> 0; told(0)
        votes(0, 6001, 3, 0) -> 6                                     # 3 0 has printed all of it; 1, 2, 4, 5, 7 nothing yet
        votes(0, 6002, 3, 0) -> 0                                     # all END, but 6 0 HANGS
        told(1); votes(0, 6001, 3, 0) -> 5                            # 3 0 printed another one
        told(0, 0); votes(0, 9002, {2 3}, 0) -> 0 36    # x y 0 without 6 but 1 3 0 and 1 7 0; 1 6 0; 3 6 0
        """);
    edge("Terms 3, promise 20", "NOT: nobody votes.", """
        language(33333333) -> 0
        votes(0, {1200 3200 5200}, 1, 0) -> NOT; votes(0, 5200, {0 2 3}, 0) -> 0
        votes(0, 6200, 1, 0) -> 0
        told(999); votes(0, 12200, 1, 0) -> NOT; votes(0, 12200, {0 2}, 999) -> 0
        """);
  }

  private static void shortestOnes() {
    edge("Terms 3, promise 21", "SHORTEST for the row (input 0): the first PROGRAM, in order, to SIZE n that ENDS within t STEPS "
        + "and printed just the row;", """
        language(33333333) -> 0; told(1)
        shortest(0, {8200 9002}, 0) -> NOT; shortest(0, {9003 9200 12200}, 0) -> 9; looked(1, 3, 0)
        told(0); shortest(0, {5200 6001}, 0) -> NOT; shortest(0, 6002, 0) -> 6; looked(3, 0)
        unsay(); shortest(0, 2200, 0) -> NOT; shortest(0, {3001 12200}, 0) -> 3; looked(0)
        told(0, 0, 0, 0, 0, 0, 0, 0); shortest(0, {9016 8200}, 0) -> NOT; shortest(0, 9017, 0) -> 9; looked(3, 6, 0)
        told(0, 0, 0, 0, 0, 0, 0); shortest(0, 12200, 0) -> NOT       # a beginning alone is not just the row
        """);
    edge("Terms 3, promise 21", "SHOWN, if all PROGRAMS ahead of it ENDED or HANG within t STEPS;", """
        language(33333333) -> 0; told(1); shortest(0, 9003, 1) -> 1
        told(0, 0, 0, 0, 0, 0, 0, 0); shortest(0, {9017 9040}, 1) -> 0    # 1 6 0 is ahead, and ENDS at STEP 41
        shortest(0, {9041 9200}, 1) -> 1
        unsay(); shortest(0, 3001, 1) -> 1                            # none is ahead of 0
        """);
    edge("Terms 3, promise 21", "HOW MANY to SIZE n print just it and END.", """
        language(33333333) -> 0
        shortest(0, {1001 2200 3001 3200}, 2) -> 0 0 1 1; shortest(0, {6001 6002}, 2) -> 1 6
        told(1); shortest(0, {8200 9002 9003 11200}, 2) -> 0 0 1 1
        shortest(0, 12200, 2) -> 11    # 1 3 x 0 of x 1, 2, 4, 5, 7; x 1 3 0 of x 2, 4, 5, 7; 1 5 3 0
        told(0, 0, 0, 0, 0, 0, 0, 0); shortest(0, {9016 9017}, 2) -> 0 1
        """);
  }

  private static void censusCases() {
    edge("Terms 3, promise 22", "CENSUS to SIZE n, input x, t STEPS: how many PROGRAMS there are, that ENDED, that HANG, "
        + "that are not settled;", """
        language(33333333) -> 0; language(16666666) -> 1
        census(0, {2200 3200 5200 6200 9200 12200}, 0, 0) -> 0 1 1 8 57 400
        census(1, {1001 6200 7200 12200}, 0, 0) -> 1 1 8 8
        census(0, 6001, 0, {1 2 3}) -> 1 1 6; census(0, 6002, 0, {1 2 3}) -> 7 1 0
        census(0, 6001, 999, {1 2 3}) -> 2 0 6                        # odd: 7 0 ENDS at STEP 1
        census(0, 6002, {19 20}, 2) -> 1 0; census(0, 6002, {19 20}, 1) -> 7 8
        census(0, 9040, 0, 3) -> 1; census(0, 9041, 0, 3) -> 0        # 1 6 0
        """);
    edge("Terms 3, promise 22", "the most STEPS of one that ENDED (0: none), and which one;", """
        language(33333333) -> 0; program(5, 5)
        census(0, {1001 2200}, 0, 4) -> 0; looked(5, 5)
        census(0, {3001 6001}, 0, 4) -> 1; looked(0)
        census(0, 6002, 0, 4) -> 2; looked(1, 0)                      # the first of six
        census(0, 9040, 0, 4) -> 17; looked(3, 6, 0); census(0, 9041, 0, 4) -> 41; looked(1, 6, 0)
        census(0, 12200, 0, 4) -> 121; looked(1, 4, 6, 0)
        census(0, 12121, 0, 4) -> 121; census(0, 12120, 0, 3) -> 1    # A and B by turns: 40 times 3, and END
        """);
    edge("Terms 3, promise 22", "the SHARE that ENDED: sum of 2 to the (n - SIZE);", """
        language(33333333) -> 0; language(16666666) -> 1
        census(0, {1001 2200 3001 4001 6001 12001}, 0, 5) -> 0 0 1 2 8 512
        census(0, {6002 9200}, 0, 5) -> 14 150; census(1, {1001 12001}, 0, 5) -> 1 2048
        """);
    edge("Terms 3, promise 22", "SURE bits: how many of the first n bits of the SHARE, as a number of n bits, are alike with "
        + "all that is not settled, added, and without it (both held at 2 to the n less 1).", """
        language(33333333) -> 0; language(16666666) -> 1
        census(0, {1001 2001 3001 4001 5001}, 0, 6) -> 1 2 3 4 5      # nothing is open
        census(0, 6001, 0, {5 6}) -> 8 3                              # 001000 to 001110
        census(0, 6002, 0, {5 6}) -> 14 6
        census(0, 9001, 0, {5 6}) -> 64 1                             # 001000000 to 010011010
        census(0, 12200, 0, 6) -> 12
        language(22334444) -> 2; census(2, 8001, 0, {5 6}) -> 64 0    # 01000000 to 10000100: none is
        census(1, {1001 6001}, 0, 6) -> 1 6; census(1, 7001, 0, {5 6}) -> 64 4    # 1000000 to 1000110
        """);
  }

  private static void promises18and19() {
    edge("Promise 18", "A number comes to the row: how many it has. BAD,", """
        say({-1 1000 LEAST MOST}) -> BAD; count(3) -> 0; say({0 999}) -> 1 2; count(3) -> 2
        """);
    edge("Promise 18", "FULL: 8.", """
        7 x say(999); say(0) -> 8; say({0 999}) -> FULL; count(3) -> 8
        say({-1 1000 LEAST MOST}) -> BAD; unsay() -> 8; say(5) -> 1   # BAD is named ahead
        """);
    edge("Promise 19", "The row is empty: how many it had.", """
        unsay() -> 0; say(5) -> 1; unsay() -> 1; unsay() -> 0; count(3) -> 0
        8 x say(1); unsay() -> 8; count(3) -> 0; language(33333333) -> 0; votes(0, 6001, 2, 0) -> 1
        """);
  }

  private static final String EACH_NT_AND_LANGUAGE = """
        language(33333333) -> 0; say(0)
        NAME(0, {LEAST -12100 -1 0 1 100 200 999 1000 1201 1999 12000 12201 12999 13000 13001 13100 MOST}, REST) -> BAD
        NAME({-1 1 6 LEAST MOST}, 9100, REST) -> BAD
        """;

  private static void promises20to22() {
    edge("Promise 20", "nt: 1000 times SIZE n (1 .. 12), and t (1 .. 200).", """
        language(33333333) -> 0
        votes(0, {1001 1200}, {0 2 3}, 0) -> 0; votes(0, 12001, {0 2 3}, 0) -> 169 169 845; votes(0, 12200, 3, 0) -> 0
        """);
    for (int what = 0; what < 4; what++) {
      edge("Promise 20", "nt: 1000 times SIZE n (1 .. 12), and t (1 .. 200).",
          EACH_NT_AND_LANGUAGE.replace("NAME", "votes").replace("REST", what + ", 0"));
    }
    edge("Promise 20", "VOTES of number v (what 0), MOST (1), ALL (2), OPEN (3; v does not matter in 1 to 3). BAD;", """
        language(33333333) -> 0
        votes(0, 9100, {-1 4 LEAST MOST}, 0) -> BAD
        votes(0, 9100, 0, {-1 1000 LEAST MOST}) -> BAD; votes(0, 9100, 0, {0 999}) -> 19 0
        votes(0, 9001, 1, {-1 1000 LEAST MOST}) -> 0; votes(0, 9001, 2, {-1 1000 LEAST MOST}) -> 15
        votes(0, 9001, 3, {-1 1000 LEAST MOST}) -> 75
        """);
    edge("Promise 20", "NOT (1).", """
        language(33333333) -> 0; votes(0, 5200, {0..3}, 0) -> 0 NOT 0 0; votes(1, 5200, 1, 0) -> BAD; votes(0, 6200, 1, 0) -> 0
        """);
    edge("Promise 21", "SHORTEST for the row: its SIZE (what 0; it is looked at then), SHOWN (1: 1, 0), HOW MANY (2).", """
        language(33333333) -> 0; program(5, 5); say(1)
        shortest(0, 9200, {1 2}) -> 1 1; looked(5, 5); shortest(0, 9200, 0) -> 9; looked(1, 3, 0)
        unsay(); shortest(0, {3001 12200}, 1) -> 1; told(0, 0, 0); shortest(0, {12040 12200}, 1) -> 0 1
        """);
    for (int what = 0; what < 3; what++) {
      edge("Promise 21", "BAD;", EACH_NT_AND_LANGUAGE.replace("NAME", "shortest").replace("REST", "" + what)
          + "shortest(0, 9100, {-1 3 LEAST MOST}) -> BAD");
    }
    edge("Promise 21", "NOT (0, 1).", """
        language(33333333) -> 0; program(5, 5); say(1)
        shortest(0, 8200, {0 1 2}) -> NOT NOT 0; looked(5, 5); unsay(); shortest(0, 1001, {0 1 2}) -> NOT NOT 0; looked(5, 5)
        """);
    edge("Promise 22", "CENSUS: PROGRAMS (what 0), ENDED (1), HANG (2), not settled (3), the most STEPS (4; the first such "
        + "PROGRAM is looked at then, if there is one), SHARE (5), SURE (6).", """
        language(33333333) -> 0; program(5, 5)
        census(0, 6001, 0, {0 1 2 3 5 6}) -> 8 1 1 6 8 3; looked(5, 5); census(0, 2200, 0, 4) -> 0; looked(5, 5)
        census(0, 6001, 0, 4) -> 1; looked(0)
        census(0, 6002, 19, {0..6}) -> 8 7 1 0 2 14 6; looked(1, 0)
        """);
    for (int what = 0; what < 7; what++) {
      edge("Promise 22", "BAD.", EACH_NT_AND_LANGUAGE.replace("NAME", "census").replace("REST", "0, " + what));
    }
    edge("Promise 22", "BAD.", """
        language(33333333) -> 0; census(0, 9100, {-1 1000 LEAST MOST}, {0 4}) -> BAD; census(0, 9100, 0, {-1 7 LEAST MOST}) -> BAD
        census(0, 9100, {0 999}, 0) -> 57; program(5); census(0, 9201, 0, 4) -> BAD; looked(5)
        """);
  }

  public static void main(String[] args) {
    votes();
    shortestOnes();
    censusCases();
    promises18and19();
    promises20to22();
    Edge.end("Terms 3", "Promise 18", "Promise 19", "Promise 20", "Promise 21", "Promise 22");
  }
}
