// Boundary cases of Terms 2 and promises 13 to 17: THE TAPE, TASKS and searches.
public final class EdgesTasksTest {
  /** With input 5: n 3, f 6, l 2, m 9, x 5, a 2, b 6; END is the 8th STEP. */
  private static final String PRINTS_6_1_2 = "language(33333333) -> 0; program(1, 3, 4, 1, 3, 2, 3, 0)\n";

  private static void edge(String where, String sentence, String run) {
    Edge.edge(where, sentence, run);
  }

  /** Each text becomes a TASK with input 5, and the PROGRAM passes it or not. */
  private static void passed(String where, String sentence, int due, String... texts) {
    for (int from = 0; from < texts.length; from += 8) {
      StringBuilder run = new StringBuilder(PRINTS_6_1_2);
      int to = Math.min(texts.length, from + 8);
      for (int i = from; i < to; i++) {
        run.append("text(" + texts[i] + "); task(5) -> " + (i - from) + "; passes(0, " + (i - from) + ", 8) -> " + due + "\n");
      }
      edge(where, sentence, run.toString());
    }
  }

  /** Each text has its FAULT at the place told; THE TAPE is empty then, and no TASK came. */
  private static void fault(String where, String sentence, Object... textsAndPlaces) {
    for (int i = 0; i < textsAndPlaces.length; i += 2) {
      edge(where, sentence, "text(" + textsAndPlaces[i] + "); task(0) -> " + (-100 - (int) textsAndPlaces[i + 1])
          + "\ncount({1 2}) -> 0; text(f=1); task(0) -> 0");
    }
  }

  private static void tasks() {
    edge("Terms 2, promises 14, 15, 16, 25", "TASKS 0 .. 9, as they come:", """
        language(33333333) -> 0; program(3, 0)
        passes(0, 0, 9) -> BAD; search(0, 0, 14) -> BAD
        text(f=0); task(0) -> 0; passes(0, {0 1}, 9) -> 1 BAD
        text(f=0); task(0) -> 1                                       # one like another has a number of its own
        text(n=9); task(0) -> 2; text(n=9); task(0) -> 3; text(n=9); task(0) -> 4; text(n=9); task(0) -> 5
        text(n=9); task(0) -> 6; text(n=9); task(0) -> 7; text(n=9); task(0) -> 8; text(f=7); task(7) -> 9
        passes(0, {0..9}, 9) -> 1 1 0 0 0 0 0 0 0 1
        passes(0, {-1 10 LEAST MOST}, 9) -> BAD; search(0, {-1 10 LEAST MOST}, 9) -> BAD
        cheaper(0, 0, {9 -1 10 LEAST MOST}, 7) -> 0 VOID VOID VOID VOID
        text(f=0); task(0) -> FULL; count({1 2}) -> 10 3
        """);
    edge("Terms 2, promises 13, 14", "THE TAPE (at most 60 bytes): a text, and an input:", """
        text(01=1&1=1&1=1&1=1&1=1&1=1&1=1&1=1&1=1&1=1&1=1&1=1&1=1&1=1&1=1)
        count(2) -> 60; feed(1, 49) -> FULL; task(999) -> 0; count(2) -> 0
        text(f=x); task(999) -> 1; text(f=x); task(998) -> 2
        language(33333333) -> 0; program(3, 0); passes(0, {0 1 2}, 9) -> 1; 61 x feed(1, 120); count(2) -> 60
        """);
  }

  private static void grammar() {
    passed("Terms 2, promises 14, 15", "E = A { | A }.", 1, "1=1", "1=2|1=1", "1=1|1=2", "1=1|1=2|1=2", "1=2|1=1|1=2",
        "1=2|1=2|1=2|f=6", "1=2&1=2|1=1");
    passed("Terms 2, promises 14, 15", "E = A { | A }.", 0, "1=2", "1=2|1=2", "1=2|1=2|1=3", "1=2|1=1&1=2");
    passed("Terms 2, promises 14, 15", "A = N { & N }.", 1, "1=1&1=1", "1=1&1=1&1=1&1=1", "1=1|1=2&1=2", "!1=2&!1=2");
    passed("Terms 2, promises 14, 15", "A = N { & N }.", 0, "1=1&1=2", "1=2&1=1", "1=1&1=1&1=2", "1=2&1=1&1=1",
        "1=1&1=2&1=1", "(1=1|1=1)&1=2");
    passed("Terms 2, promises 14, 15", "N = ! N, ( E ), or S = S, S < S, S > S.", 1, "!1=2", "!!1=1", "(1=1)", "((1=2|1=1))",
        "!(1=2)", "(!1=2)", "2=2", "1<2", "2>1", "0<1", "999>998", "!2<2", "!2>2", "!1=1|1=1", "1<2&1=1", "2>1&1=1");
    passed("Terms 2, promises 14, 15", "N = ! N, ( E ), or S = S, S < S, S > S.", 0, "!1=1", "!!1=2", "(1=2)", "2=1", "2<2",
        "3<2", "2>2", "1>2", "!(1=1|1=2)", "!1=2&1=2", "!1<2", "!2>1", "!(1<2)");
    passed("Terms 2, promises 14, 15", "S = P { + P, - P }.", 1, "1+1=2", "3-2-1=0", "3-2+1=2", "0-1<0", "1+2*3=7", "2=3-1",
        "1-1-1=0-1", "9-4%3-1=7");
    passed("Terms 2, promises 14, 15", "P = O { * O, % O }.", 1, "2*3*4=24", "7%4*2=6", "2*7%4=2", "9%5%3=1", "0*5=0", "4%4=0",
        "3%4=3", "6=2*3");
    passed("Terms 2, promises 14, 15", "O = number (1 to 3 digits), NAME.", 1, "7=7", "07=7", "007=7", "000=0", "999=999",
        "010=10", "f=006", "999>100");
    fault("Terms 2, promise 14", "O = number (1 to 3 digits), NAME.", "0007=7", 3, "f=1234", 5, "1234=1", 3, "f=", 2, "=1", 0,
        "f=1+", 4, "f=1000", 5, "ff=1", 1, "1f=1", 1, "f1=1", 1, "f=1f", 3, "-1=f", 0, "f=-1", 2, "f=+1", 2, "f*=1", 2);
    passed("Terms 2, promises 14, 15", "NAMES: n how many were printed, f the first one, l the last one, m the sum of all, x "
        + "the input, a, b: A, B", 1, "n=3", "f=6", "l=2", "m=9", "x=5", "a=2", "b=6", "n+f+l+m+x+a+b=33");
    fault("Terms 2, promise 14", "NAMES: n how many were printed, f the first one, l the last one, m the sum of all, x "
        + "the input, a, b: A, B", "c=1", 0, "N=1", 0, "F=1", 0, "f=y", 2, "g=1", 0, "k=1", 0, "o=1", 0, "`=1", 0, "_=1", 0);
    edge("Terms 2, promises 14, 15", "NAMES: n how many were printed, f the first one, l the last one, m the sum of all,", """
        language(33333333) -> 0; program(3, 6, 0)                     # 8 times the same
        text(n=8&f=x&l=x&m=8*x); task(19) -> 0; passes(0, 0, {16 17}) -> 0 1
        program(3, 3, 3, 3, 3, 3, 3, 3, 0); text(m=7*999+999&f=999); task(999) -> 1; passes(0, 1, {8 9}) -> 0 1
        program(3, 1, 0); text(n=1&f=l&m=f&f=999&a=0); task(999) -> 2; passes(0, 2, 3) -> 1
        """);
    edge("Terms 2, promises 14, 15", "(f, l are -1, if none was).", """
        language(33333333) -> 0; program(1, 0); text(f=0-1&l=0-1|1=1); task(0) -> 0; passes(0, 0, 9) -> 0
        program(3, 0); text(f<0|l<0); task(0) -> 1; passes(0, {0 1}, 9) -> 1 0
        """);
    fault("Terms 2, promise 14", "No blanks.", " f=1", 0, "f =1", 1, "f= 1", 2, "f=1 ", 3, "f=1 &f=1", 3, "f=1& f=1", 4, " ", 0,
        "1 1=1", 1, "( f=1)", 1, "! f=1", 1, "f=1\t", 3);
  }

  private static void openAtOnce() {
    passed("Terms 2, promises 14, 15", "At most 5 ( ! are open at once.", 1, "(((((f=6)))))", "!!!!f=6", "!!!!!f=1",
        "!(!(!f=1))", "(!(!(f=6)))", "(((((f=1)|!f=1))))", "!!!!!f=1&!!!!!f=1", "(((((f=6)))))&(((((f=6)))))");
    passed("Terms 2, promises 14, 15", "At most 5 ( ! are open at once.", 1, "(f=6)&(f=6)&(f=6)&(f=6)&(f=6)&(f=6)",
        "!f=1&!f=1&!f=1&!f=1&!f=1&!f=1&!f=1", "(!!!!f=6)", "!!!!(f=6)", "((((!f=1))))", "((((f=6&(f=6)))))");
    fault("Terms 2, promise 14", "At most 5 ( ! are open at once.", "((((((f=6))))))", 5, "!!!!!!f=6", 5, "!!!!!(f=6)", 5,
        "(((((!f=6)))))", 5, "!(!(!(f=6)))", 5, "(((((f=1)|!!f=1))))", 11, "f=1&((((((f=6))))))", 9, "f=1|!!!!!!f=6", 9,
        "(((((f=6))))", 12, "(((((f=6))))))", 13, "!!!!!", 5, "(((((", 5, "((((((", 5, "((((f=6&((f=6))))))", 9);
  }

  private static void ints() {
    passed("Terms 2, promises 14, 15", "Ints;", 1, "999*999*999*3<0", "512*512*512*16<0", "512*512*512*16-1>0",
        "512*512*512*15>0", "0-512*512*512*16<0", "512*512*512*32=0", "999*999*999=999*999*999", "512*512*512*16%7=0-2");
    passed("Terms 2, promises 14, 15", "% by 0 gives 0.", 1, "5%0=0", "f%0=0", "0%0=0", "999*999*999*3%0=0", "5%0*7=0",
        "1+5%0=1", "5%000=0", "7%1=0");
    edge("Terms 2, promises 14, 15", "% by 0 gives 0.", """
        language(33333333) -> 0; program(3, 0); text(5%f=0); task(0) -> 0; passes(0, 0, 9) -> 1
        text(5%b=0&f%a=0); task(0) -> 1; passes(0, 1, 9) -> 1; text(5%x=1); task(2) -> 2; passes(0, 2, 9) -> 1
        """);
  }

  private static void faults() {
    fault("Terms 2, promise 14", "FAULT: the place (from 0) of the first byte with which no text goes on;", ")", 0, "*", 0,
        "&f=1", 0, "|", 0, "f|", 1, "f&", 1, "f)", 1, "f!", 1, "f(", 1, "f==1", 2, "f=1=1", 3, "f=1<2", 3, "f<=1", 2, "f=>1", 2,
        "f=1)", 3, "(f=1))", 5, "(f)=1", 2, "f=(1)", 2, "f+(1)=1", 2, "(f=1)=1", 5, "(f=1)+1", 5, "(f=1)(", 5, "(f=1)f", 5,
        "()", 1, "!)", 1, "f=1!", 3, "f=1|&f=1", 4, "f=1||f=1", 4, "f=1&&f=1", 4, "f!=1", 1, "!f", 2, "1=1;", 3, "f=1q", 3);
    fault("Terms 2, promise 14", "the length, if it ends too early.", "f", 1, "12", 2, "f=", 2, "f+", 2, "f=1&", 4, "f=1|", 4,
        "(", 1, "!", 1, "(f=1", 4, "((f=1)", 6, "(f=1&", 5, "f=1%", 4, "123", 3, "f+1-2*3", 7,
        "n+n+n+n+n+n+n+n+n+n+n+n+n+n+n+n+n+n+n+n+n+n+n+n+n+n+n+n+n+n+", 60,
        "1=1&1=1&1=1&1=1&1=1&1=1&1=1&1=1&1=1&1=1&1=1&1=1&1=1&1=1&1=1&", 60);
    edge("Terms 2, promise 14", "the length, if it ends too early.", "task(0) -> -100; count({1 2}) -> 0; task(999) -> -100");
    edge("Terms 2, promise 14", "FAULT: the place (from 0) of the first byte with which no text goes on;", """
        feed(1, 0); task(0) -> -100; feed(1, 255); task(0) -> -100; feed(1, 128); task(0) -> -100
        text(f=1); feed(1, 0) -> 4; task(0) -> -103                   # no byte ends a text
        text(f=1); feed(1, 10) -> 4; task(0) -> -103; text(f=1); feed(1, 230) -> 4; task(0) -> -103
        feed(1, 358) -> 1; text(=1); task(0) -> 0                     # 102 is f; a byte's bits alone
        60 x feed(1, 102); task(0) -> -101; count({1 2}) -> 1 0
        """);
    edge("Terms 2, promises 14, 15", "PASSED: E holds when a PROGRAM ENDS, and something was printed.", """
        language(33333333) -> 0; text(1=1); task(7) -> 0; text(1=2); task(7) -> 1
        program(0); passes(0, {0 1}, 9) -> 0; program(1, 0); passes(0, 0, 9) -> 0        # nothing was printed
        program(3, 0); passes(0, {0 1}, 2) -> 1 0; passes(0, 0, {0 1 2 3}) -> 0 0 1 1    # it ENDS at STEP 2
        program(3, 7, 0); passes(0, 0, {1 2}) -> 0 1                                    # and so behind the last ORDER
        program(7, 3, 7, 1, 6, 0); text(1=1); task(2) -> 2; passes(0, 2, 999) -> 0      # printed, but HANGS
        program(3, 6, 0); passes(0, 0, {16 17}) -> 0 1                                  # ENDS by the 9th SAY
        """);
  }

  private static void searches() {
    edge("Terms 2, promises 16, 17", "SEARCH in a LANGUAGE for a TASK: PHASES 1, 2, ..: in PHASE i each PROGRAM of SIZE n, i at "
        + "most, in order, goes on until it had 2 to the (i - n) STEPS in all; those that ENDED or HANG are left out.", """
        language(33333333) -> 0; text(n=9); task(0) -> 0
        search(0, 0, 1) -> NOT; searched({0..4}) -> 0 NOT NOT 0 0
        search(0, 0, 2) -> NOT; searched({0..4}) -> 0 NOT NOT 0 0
        search(0, 0, 3) -> NOT; searched({0..4}) -> 1 NOT NOT 1 0     # END
        search(0, 0, 5) -> NOT; searched({0..4}) -> 1 NOT NOT 1 0     # it is left out
        search(0, 0, 6) -> NOT; searched({0..4}) -> 8 NOT NOT 8 1     # 1 STEP of seven; 6 0 HANGS
        search(0, 0, 7) -> NOT; searched({0..4}) -> 14 NOT NOT 8 1    # 1 more of six
        search(0, 0, 8) -> NOT; searched({0..4}) -> 14 NOT NOT 8 1
        search(0, 0, 9) -> NOT; searched({0..4}) -> 63 NOT NOT 57 8   # 49 of SIZE 9; 6 x 0 HANGS
        search(0, 0, 10) -> NOT; searched({0..4}) -> 105 NOT NOT 57 12    # 42; 2 6 0, 4 6 0, 5 6 0, 7 6 0 HANG; 1 7 0 ENDS
        search(0, 0, 11) -> NOT; searched({0..4}) -> 144 NOT NOT 57 12    # 35 END, 1 6 0 and 3 6 0 have 2 STEPS
        """);
    edge("Terms 2, promises 16, 17", "The first that ENDS and PASSES is the ANSWER; the search ends behind that STEP. SUM: all STEPS.", """
        language(33333333) -> 0; text(n=1&a=1); task(0) -> 0; text(n=1); task(0) -> 1
        search(0, 1, 14) -> 7; looked(3, 0); searched({0..4}) -> 11 2 1 8 1    # 1, 7, and 3 in PHASE 7
        search(0, 0, 14) -> 11; looked(1, 3, 0)                       # 3 1 0 would be found in that PHASE, too
        searched({0..4}) -> 108 3 1 57 12                             # 105, and 3 in PHASE 11
        """);
    edge("Terms 2, promises 16, 17", "PHASES to a told one (1 .. 14); NOT: there is none till then.", """
        language(44444444) -> 0; text(f=1); task(0) -> 0; program(5)
        search(0, 0, {0 15 -1 LEAST MOST}) -> BAD; searched(0) -> BAD
        search(0, 0, 1) -> NOT; search(0, 0, 13) -> NOT; searched({0..4}) -> 105 NOT NOT 57 12; looked(5)
        search(0, 0, 14) -> 14; looked(1, 3, 0)                       # SIZE 12, and STEPS 1, 2, 3 in PHASES 12, 13, 14
        searched({0..4}) -> 108 3 1 57 12
        """);
    edge("Terms 2, promises 16, 17", "(Programs of 12 ORDERS at most; the SIZES here 14 at most.)", """
        language(26666666) -> 0; text(n=9); task(0) -> 0
        search(0, 0, 13) -> NOT; searched(3) -> 8; search(0, 0, 14) -> NOT; searched(3) -> 57    # SIZES 2, 8, 14
        language(66666666) -> 1; search(1, 0, 14) -> NOT; searched({0 3}) -> 14 8
        language(21555555) -> 2; search(2, 0, 14) -> NOT; searched(3) -> 588    # 12 times ONE and END were the 589th
        """);
    edge("Terms 2, promise 17", "FACTOR: SUM / (2 to the SIZE times the ANSWER's own STEPS), up.", """
        language(33333333) -> 0; text(n=1); task(0) -> 0
        search(0, 0, 14) -> 7; searched({0 1 2}) -> 11 2 1            # 11 / 128, up
        search(0, 0, 6) -> NOT; searched({0 1 2}) -> 8 NOT NOT
        """);
  }

  private static void promises13and14() {
    edge("Promise 13", "n (1 .. 4) bytes come to THE TAPE, the lowest of v first: how many it has.", """
        feed(1, 102) -> 1; feed(2, 12605) -> 3; task(0) -> 0          # f, = 1: 61 + 256 * 49
        feed(4, 640826726) -> 4; feed(3, 3226990) -> 7; task(1) -> 1  # f=2& n=1
        feed(1, MOST) -> 1; feed(4, LEAST) -> 5; feed(3, -1) -> 8; feed(2, 0) -> 10; task(0) -> -100
        feed(1, -154) -> 1; feed(1, 317) -> 2; feed(1, 561) -> 3; task(0) -> 2    # the lowest byte alone: f, =, 1
        feed(2, 3226982) -> 2; feed(1, 49) -> 3; task(0) -> 3         # the two lowest alone
        """);
    edge("Promise 13", "BAD,", """
        feed({0 -1 5 LEAST MOST}, 49) -> BAD; count(2) -> 0
        15 x feed(4, 0); count(2) -> 60; feed({0 -1 5 LEAST MOST}, 49) -> BAD    # named ahead of FULL
        """);
    edge("Promise 13", "FULL.", """
        14 x feed(4, 0); feed(1, 0) -> 57; feed(4, 0) -> FULL; count(2) -> 57
        feed(3, 0) -> 60; feed({1 2 3 4}, 0) -> FULL; count(2) -> 60; task(0) -> -100; feed(4, 0) -> 4
        """);
    edge("Promise 14", "THE TAPE becomes a TASK with an input: its number; -100 less its FAULT; THE TAPE is empty then.", """
        text(f=1); task(0) -> 0; count({1 2}) -> 1 0
        text(f=x); task(999) -> 1; count({1 2}) -> 2 0
        task(0) -> -100; text(f=1); feed(1, 33); task(0) -> -103; count({1 2}) -> 2 0
        text(n+n+n+n+n+n+n+n+n+n+n+n+n+n+n+n+n+n+n+n+n+n+n+n+n+n+n+n+n+n+); task(0) -> -160; count({1 2}) -> 2 0
        text(n+n+n+n+n+n+n+n+n+n+n+n+n+n+n+n+n+n+n+n+n+n+n+n+n+n+n+n+n+n)
        feed(1, 38); task(0) -> -159; count({1 2}) -> 2 0             # the 60th byte
        """);
    edge("Promise 14", "BAD, FULL (it stays in both).", """
        text(f=1); task({-1 1000 LEAST MOST}) -> BAD; count({1 2}) -> 0 3; task(0) -> 0
        text(f); task(-1) -> BAD; count(2) -> 1; task(0) -> -101      # BAD is named ahead of what the text is
        """);
    edge("Promise 14", "BAD, FULL (it stays in both).", """
        text(f=1); task(0) -> 0; text(f=1); task(0) -> 1; text(f=1); task(0) -> 2; text(f=1); task(0) -> 3
        text(f=1); task(0) -> 4; text(f=1); task(0) -> 5; text(f=1); task(0) -> 6; text(f=1); task(0) -> 7
        text(f=1); task(0) -> 8; text(f=1); task(999) -> 9
        task(0) -> FULL; text(f=1); task({0 999}) -> FULL; count({1 2}) -> 10 3
        task({-1 1000 LEAST MOST}) -> BAD; count({1 2}) -> 10 3       # named ahead
        """);
  }

  private static void promises15to17() {
    edge("Promise 15", "Whether the PROGRAM PASSES a TASK within t (0 .. 999) STEPS: 1, 0.", PRINTS_6_1_2 + """
        text(f=6); task(5) -> 0; text(f=5); task(5) -> 1; text(f=0&b=0); task(999) -> 2
        passes(0, 0, {0 7 8 999}) -> 0 0 1 1; passes(0, 1, {0 8 999}) -> 0; passes(0, 2, {7 8}) -> 0 1
        order(-1) -> 8; ran(0) -> BAD                                 # it is no run()
        """);
    edge("Promise 15", "BAD;", """
        language(33333333) -> 0; text(1=1); task(0) -> 0; program(3, 0)
        passes({-1 1 6 LEAST MOST}, 0, 9) -> BAD; passes(0, {-1 1 10 LEAST MOST}, 9) -> BAD
        passes(0, 0, {-1 1000 LEAST MOST}) -> BAD; passes(0, 0, 999) -> 1
        """);
    edge("Promise 15", "STATE.", """
        language(33333333) -> 0; text(1=1); task(0) -> 0; passes(0, 0, 9) -> STATE; program(3); passes(0, 0, 9) -> STATE
        program(8, 0); passes(0, 0, 0) -> STATE; passes(0, 1, 9) -> BAD; passes(1, 0, 9) -> BAD; passes(0, 0, 1000) -> BAD
        """);
    edge("Promise 16", "SEARCH to a PHASE (1 .. 14): the PHASE in which there was an ANSWER (it is looked at then). BAD; NOT.", """
        language(33333333) -> 0; text(n=1); task(0) -> 0; program(5, 5)
        search({-1 1 6 LEAST MOST}, 0, 14) -> BAD; search(0, {-1 1 10 LEAST MOST}, 14) -> BAD
        search(0, 0, {-1 0 15 LEAST MOST}) -> BAD
        search(0, 0, {1 6}) -> NOT; looked(5, 5); searched(0) -> 8
        search(0, 0, 7) -> 7; looked(3, 0); clear(); search(0, 0, 14) -> 7; looked(3, 0)
        program(5); search(0, 0, 6) -> NOT; looked(5)
        """);
    edge("Promise 17", "Of the latest search() that was not BAD: 0 SUM, 1 STEPS of the ANSWER, 2 FACTOR (1, 2: -2 without one), "
        + "3 PROGRAMS that were begun, 4 those that HANG.", """
        language(33333333) -> 0; text(n=1); task(0) -> 0; search(0, 0, 14) -> 7
        search(0, 0, 15) -> BAD; search(1, 0, 1) -> BAD; search(0, 1, 1) -> BAD
        searched({0..4}) -> 11 2 1 8 1; cheaper(0, 0, 0, 14) -> 0; searched({0..4}) -> 11 2 1 8 1
        search(0, 0, 6) -> NOT; searched({0..4}) -> 8 NOT NOT 8 1
        search(0, 0, 1) -> NOT; searched({0..4}) -> 0 NOT NOT 0 0
        text(n=1); task(20) -> 1; search(0, 1, 14) -> 7; searched({0..4}) -> 11 2 1 8 0    # with 20, 6 0 does not hang
        """);
    edge("Promise 17", "BAD (also before any).", """
        searched({-1 0 1 2 3 4 5 LEAST MOST}) -> BAD; language(33333333) -> 0; text(n=1); task(0) -> 0
        search(0, 0, 0) -> BAD; searched({0..4}) -> BAD; search(0, 0, 14) -> 7; searched({-1 5 LEAST MOST}) -> BAD
        """);
  }

  public static void main(String[] args) {
    tasks();
    grammar();
    openAtOnce();
    ints();
    faults();
    searches();
    promises13and14();
    promises15to17();
    Edge.end("Terms 2", "Promise 13", "Promise 14", "Promise 15", "Promise 16", "Promise 17");
  }
}
