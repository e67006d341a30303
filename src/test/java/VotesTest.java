// Promises 18 to 22: votes, shortest ones, the census.
public final class VotesTest {
  private static final int BAD = -1, NOT = -2, FULL = -3;

  private static void due(String call, long got, long want) {
    Due.due(call, got, want);
  }

  private static void promises18and19() {
    AllPrograms x = new AllPrograms();
    for (int v : new int[] {-1, 1000, Integer.MIN_VALUE, Integer.MAX_VALUE}) due("say(" + v + ")", x.say(v), BAD);
    due("unsay()", x.unsay(), 0);
    for (int i = 1; i <= 8; i++) due("say", x.say(i * 111), i);
    due("a 9th", x.say(0), FULL);
    due("BAD ahead of FULL", x.say(1000), BAD);
    due("count(3)", x.count(3), 8);
    due("unsay()", x.unsay(), 8);
    due("unsay()", x.unsay(), 0);
    due("say(0)", x.say(0), 1);
    due("say(999)", x.say(999), 2);
  }

  private static void badOnes(AllPrograms x) {
    int[] nts = {0, -1, 1, 999, 1000, 1201, 1999, 13001, 13100, 12000, 12201, 100, -5005, -12100, Integer.MIN_VALUE, Integer.MAX_VALUE};
    for (int nt : nts) {
      due("votes(0, " + nt + ", 2, 0)", x.votes(0, nt, 2, 0), BAD);
      due("shortest(0, " + nt + ", 2)", x.shortest(0, nt, 2), BAD);
      due("census(0, " + nt + ", 0, 0)", x.census(0, nt, 0, 0), BAD);
    }
    for (int l : new int[] {-1, 1}) {
      due("votes(" + l + ", ..)", x.votes(l, 9100, 2, 0), BAD);
      due("shortest(" + l + ", ..)", x.shortest(l, 9100, 2), BAD);
      due("census(" + l + ", ..)", x.census(l, 9100, 0, 0), BAD);
    }
    for (int what : new int[] {-1, 4, 7, 100}) due("votes(.., " + what + ", 0)", x.votes(0, 9100, what, 0), BAD);
    for (int what : new int[] {-1, 3, 100}) due("shortest(.., " + what + ")", x.shortest(0, 9100, what), BAD);
    for (int what : new int[] {-1, 7, 100}) due("census(.., " + what + ")", x.census(0, 9100, 0, what), BAD);
    for (int v : new int[] {-1, 1000}) {
      due("votes(.., 0, " + v + ")", x.votes(0, 9100, 0, v), BAD);
      due("census(.., " + v + ", 0)", x.census(0, 9100, v, 0), BAD);
      due("v does not matter", x.votes(0, 9100, 2, v), 20);
    }
  }

  private static void promise20() {
    AllPrograms x = new AllPrograms();
    x.language(33333333);
    badOnes(x);
    // no row told: to SIZE 9, 3 0 has 8 votes for 0; 3 and any of 7 for 0; 1 3 0 for 1; 2, 4, 5 and 7, 3 0 for 0
    due("votes for 0", x.votes(0, 9100, 0, 0), 8 + 7 + 4);
    due("votes for 1", x.votes(0, 9100, 0, 1), 1);
    due("votes for 2", x.votes(0, 9100, 0, 2), 0);
    due("MOST", x.votes(0, 9100, 1, 0), 0);
    due("ALL", x.votes(0, 9100, 2, 0), 20);
    due("OPEN", x.votes(0, 9100, 3, 0), 0);
    // 1 STEP: 3 0 and 3, any of 7, 0 have printed; 6 first HANGS at once; 5 others are open
    due("1 STEP: votes for 0", x.votes(0, 9001, 0, 0), 8 + 7);
    due("1 STEP: OPEN", x.votes(0, 9001, 3, 0), 5 * 8 + 5 * 7);
    due("SIZE 3: nobody", x.votes(0, 3200, 1, 0), NOT);
    due("SIZE 3: ALL", x.votes(0, 3200, 2, 0), 0);
    due("SIZE 3: OPEN", x.votes(0, 3200, 3, 0), 0);
    due("SIZE 2: no PROGRAMS", x.votes(0, 2200, 2, 0), 0);
    due("SIZE 2: no PROGRAMS", x.votes(0, 2200, 1, 0), NOT);
    Due.say(x, 0);
    // 3 3 0; 3 6 0 prints it 8 times; the others to SIZE 9 print 0 once
    due("0 behind 0", x.votes(0, 9100, 0, 0), 2);
    due("ALL behind 0", x.votes(0, 9100, 2, 0), 2);
    // 1 STEP: 3 0 has printed 0 and goes on (8), 3 x 0 (7), and those that have printed nothing
    due("OPEN: a beginning of the row, perhaps all of it", x.votes(0, 9001, 3, 0), 8 + 7 + 5 * 8 + 5 * 7);
    Due.say(x, 1);
    due("another row: OPEN", x.votes(0, 9001, 3, 0), 5 * 8 + 5 * 7);
    Due.say(x, 0, 0, 0, 0, 0, 0, 0, 0);
    due("a 9th is never printed", x.votes(0, 12200, 2, 0), 0);
    due("a 9th is never printed", x.votes(0, 12200, 1, 0), NOT);
    Due.say(x, 0, 0, 0, 0, 0, 0, 0);
    due("3 6 0 has an 8th", x.votes(0, 9200, 2, 0), 1);
    due("3 6 0 has it at STEP 15", x.votes(0, 9015, 2, 0), 1);
    due("3 6 0 has not yet, at STEP 14", x.votes(0, 9014, 2, 0), 0);
    due("it is open then, and so is 1 6 0", x.votes(0, 9014, 3, 0), 2);
    // 1 behind 0, and 0 behind 0, in PROGRAMS of 4 ORDERS: 3 1 3 0 and 3 2 3 0 and so on
    Due.say(x, 0);
    Model m = new Model();
    m.language(33333333);
    m.say(0);
    for (int v = 0; v < 5; v++) due("SIZE 12: votes for " + v, x.votes(0, 12050, 0, v), m.votes(0, 12050, 0, v));
    ties();
  }

  private static void ties() {
    AllPrograms x = new AllPrograms();
    x.language(22344455);
    Due.say(x, 1);
    due("behind 1, to SIZE 12, 1 3 3 0 says 1: ALL", x.votes(0, 12200, 2, 0), 1);
    due("MOST", x.votes(0, 12200, 1, 0), 1);
    x.language(23243556);
    Due.say(x, 0);
    due("SAY of 4 bits, twice, and END of 2", x.votes(1, 9200, 2, 0), 0);
    due("to SIZE 10: 0", x.votes(1, 10200, 0, 0), 1);
    x.language(33333333);
    Due.say(x, 3);
    due("nobody says 3 first, and one more, to SIZE 12", x.votes(2, 12200, 1, 0), NOT);
    likeVotes();
  }

  /** By the model: rows for which two numbers have the most votes; the least of them is told. */
  private static void likeVotes() {
    int seen = 0;
    for (int digits : new int[] {33333333, 42314566, 33314566, 42324466, 52216666, 41325566}) {
      AllPrograms x = new AllPrograms();
      Model m = new Model();
      due("language", x.language(digits), m.language(digits));
      for (int first = 0; first < 6; first++) {
        Due.say(x, first);
        m.unsay();
        m.say(first);
        for (int nt = 8050; nt <= 12050; nt += 1000) {
          int most = m.votes(0, nt, 1, 0);
          due("votes(0, " + nt + ", 1, 0) behind " + first + ", " + digits, x.votes(0, nt, 1, 0), most);
          for (int v = most + 1; most >= 0 && v < 30; v++) seen += m.votes(0, nt, 0, v) == m.votes(0, nt, 0, most) ? 1 : 0;
        }
      }
    }
    if (seen == 0) due("rows with like votes", 0, 1);
  }

  private static void promise21() {
    AllPrograms x = new AllPrograms();
    x.language(33333333);
    Due.clearAndAdd(x, 5, 5, 5);
    due("no row: 0", x.shortest(0, 12100, 1), 1);
    due("how many print nothing, to SIZE 6: 0 and all of 7 but 3 0 and 6 0", x.shortest(0, 6100, 2), 6);
    due("only what 0 looks at it", Due.looked(x), 0x1555L);
    due("no row: 0", x.shortest(0, 12100, 0), 3);
    due("it is looked at", Due.looked(x), 0x10L);
    Due.say(x, 1);
    Due.clearAndAdd(x, 5);
    due("to SIZE 8: none", x.shortest(0, 8200, 0), NOT);
    due("to SIZE 8: none", x.shortest(0, 8200, 1), NOT);
    due("to SIZE 8: none", x.shortest(0, 8200, 2), 0);
    due("it stays", Due.looked(x), 0x15L);
    due("to SIZE 9: 1 3 0", x.shortest(0, 9200, 0), 9);
    due("it is looked at", Due.looked(x), 0x1130L);
    due("how many", x.shortest(0, 9200, 2), 1);
    // 1 6 0 ENDS at STEP 41, 1 3 0 at STEP 3; 1 1 0, 1 2 0 are ahead of it, but 1 6 0 is behind
    due("shown", x.shortest(0, 9003, 1), 1);
    due("2 STEPS do not end it", x.shortest(0, 9002, 0), NOT);
    Due.say(x, 0, 0, 0);
    // 3 3 3 0 has 12 bits; 3 6 0 prints more; 1 6 0 and 1 6-like ones are ahead and end at STEP 41
    due("0, 0, 0", x.shortest(0, 12200, 0), 12);
    due("it is looked at", Due.looked(x), 0x13330L);
    due("0, 0, 0: 1 6 0 is open at STEP 40", x.shortest(0, 12040, 1), 0);
    due("0, 0, 0: 1 6 0 ENDED, but 1 4 6 0, ahead of it too, is open at STEP 41", x.shortest(0, 12041, 1), 0);
    Due.say(x, 0, 0, 0, 0, 0, 0, 0, 0);
    due("8 times: 3 6 0 ENDS by the 9th SAY", x.shortest(0, 9200, 0), 9);
    due("it is looked at", Due.looked(x), 0x1360L);
    due("1 6 0 is ahead, and ENDS at STEP 41", x.shortest(0, 9041, 1), 1);
    due("it does not till STEP 40", x.shortest(0, 9040, 1), 0);
    due("STEP 17", x.shortest(0, 9017, 0), 9);
    due("STEP 16", x.shortest(0, 9016, 0), NOT);
  }

  private static void promise22() {
    AllPrograms x = new AllPrograms();
    x.language(33333333);
    Due.clearAndAdd(x, 5, 5);
    int[] first = {8, 1, 1, 6, 1, 8, 3};
    for (int what : new int[] {0, 1, 2, 3, 5, 6}) due("SIZE 6, 1 STEP: " + what, x.census(0, 6001, 0, what), first[what]);
    due("it stays", Due.looked(x), 0x155L);
    due("SIZE 6, 1 STEP: 4", x.census(0, 6001, 0, 4), 1);
    due("0 is looked at", Due.looked(x), 0x10L);
    // all are settled with 2 STEPS: 6 0 HANGS with inputs below 20
    int[] second = {8, 7, 1, 0, 2, 14, 6};
    for (int what = 0; what < 7; what++) due("SIZE 6, 2 STEPS: " + what, x.census(0, 6002, 19, what), second[what]);
    due("the first such PROGRAM", Due.looked(x), 0x110L);
    due("input 20: 6 0 ENDS", x.census(0, 6002, 20, 1), 8);
    due("input 20: none HANGS", x.census(0, 6002, 20, 2), 0);
    // an odd input: 7 0 ENDS at STEP 1, behind the last ORDER
    int[] third = {8, 2, 0, 6, 1, 9, 3};
    for (int what = 0; what < 7; what++) due("SIZE 6, 1 STEP, 21: " + what, x.census(0, 6001, 21, what), third[what]);
    Due.clearAndAdd(x, 5, 5);
    for (int what = 0; what < 6; what++) due("SIZE 2: " + what, x.census(0, 2001, 0, what), 0);
    due("SIZE 2: SURE", x.census(0, 2001, 0, 6), 2);
    due("there is none to look at", Due.looked(x), 0x155L);
    due("most STEPS to SIZE 9", x.census(0, 9200, 0, 4), 41);
    due("1 6 0", Due.looked(x), 0x1160L);
    // A and B by turns: 40 times 3 STEPS
    due("most STEPS to SIZE 12", x.census(0, 12200, 0, 4), 121);
    due("1 4 6 0", Due.looked(x), 0x11460L);
    AllPrograms y = new AllPrograms();
    Model m = new Model();
    for (int digits : new int[] {22344455, 33333333, 15444566, 61233456, 66111111, 64421666}) due("language", y.language(digits), m.language(digits));
    for (int l = 0; l < 4; l++) {
      for (int n = 1; n <= 12; n++) {
        for (int what = 0; what < 7; what++) {
          int nt = n * 1000 + 1 + (n * 7 + what) % 13 * (l + 1);
          due("census(" + l + ", " + nt + ", " + n + ", " + what + ")", y.census(l, nt, n, what), m.census(l, nt, n, what));
          due("it is looked at", y.order(0), m.order(0));
        }
      }
    }
  }

  public static void main(String[] args) {
    promises18and19();
    promise20();
    promise21();
    promise22();
    Due.end();
  }
}
