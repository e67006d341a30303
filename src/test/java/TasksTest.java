// Promises 13 to 17: THE TAPE, TASKS and searches.
public final class TasksTest {
  private static final int BAD = -1, NOT = -2, FULL = -3, STATE = -5;

  private static void due(String call, long got, long want) {
    Due.due(call, got, want);
  }

  private static void promise13() {
    AllPrograms x = new AllPrograms();
    for (int n : new int[] {0, -1, 5, Integer.MAX_VALUE, Integer.MIN_VALUE}) due("feed(" + n + ", 49)", x.feed(n, 49), BAD);
    due("feed(2, ..)", x.feed(2, 'f' + 256 * '=' + 65536 * '9'), 2);
    due("feed(1, ..)", x.feed(1, '1' + 256 * '8'), 3);
    due("count(2)", x.count(2), 3);
    due("the lowest first", x.task(0), 0);
    for (int i = 1; i <= 14; i++) due("feed(4, ..)", x.feed(4, -1), 4 * i);
    due("feed(3, ..)", x.feed(3, 0), 59);
    due("one too many", x.feed(2, 0), FULL);
    due("BAD ahead of FULL", x.feed(5, 0), BAD);
    due("it stays", x.count(2), 59);
    due("a 60th", x.feed(1, 0), 60);
    due("a 61st", x.feed(1, 0), FULL);
    due("byte 255", x.task(0), -100);
  }

  private static void dueFault(AllPrograms x, String text, int fault) {
    Due.feed(x, text);
    due("task: " + text, x.task(0), -100 - fault);
    due("THE TAPE is empty then", x.count(2), 0);
  }

  private static void promise14() {
    AllPrograms x = new AllPrograms();
    String[] texts = {"", "f", "f=", "f=1&", "(f=1", "!", "f==1", "f=1=1", "=1", "1234=f", "f=1234", "f=1)", "(f)=1",
      "f=(1)", "f =1", " f=1", "f=1 ", "g=1", "f=1|&f=2", "!f", "f!=1", "f=-1", "f+*1=1", "f=1f", "1f=1", "ff=1", "((((((f=1))))))",
      "!!!!!!f=1", "!(!(!(f=1", "!(!(!!f=1))", "(f=1)=1", "(f=1)+1", "(f=1)(", "()", "f=1!", "f=1|!", "f<=1", "N=1", "f=1\u0000",
      "!!!!!(f=1)", "(((((!f=1)))))", "(f=1&(l=2|(m=3)", "n+n+n+n+n+n+n+n+n+n+n+n+n+n+n+n+n+n+n+n+n+n+n+n+n+n+n+n+n+n+"};
    int[] faults = {0, 1, 2, 4, 4, 1, 2, 3, 0, 3, 5, 3, 2, 2, 1, 0, 3, 0, 4, 2, 1, 2, 2, 3, 1, 1, 5, 5, 5, 5, 5, 5, 5, 1, 3, 5, 2,
      0, 3, 5, 5, 15, 60};
    for (int i = 0; i < texts.length; i++) dueFault(x, texts[i], faults[i]);
    due("count(1): faults are no TASKS", x.count(1), 0);
    Due.feed(x, "f=1");
    for (int input : new int[] {-1, 1000, Integer.MIN_VALUE}) due("task(" + input + ")", x.task(input), BAD);
    due("it stays", x.count(2), 3);
    due("task(999)", x.task(999), 0);
    due("THE TAPE is empty then", x.count(2), 0);
    for (int i = 1; i < 10; i++) due("task", Due.task(x, i % 2 == 0 ? "!!!!!f=1&(((((n=1)))))" : "007<f", i), i);
    Due.feed(x, "f=1");
    due("an 11th", x.task(0), FULL);
    due("it stays", x.count(2), 3);
    due("BAD ahead of FULL", x.task(1000), BAD);
    Due.feed(x, "=");
    due("an 11th that is none", x.task(0), FULL);
    due("it stays", x.count(2), 4);
    due("count(1)", x.count(1), 10);
  }

  private static void dueAsk(String text, int want) {
    AllPrograms x = new AllPrograms();
    x.language(33333333);
    Due.clearAndAdd(x, 1, 3, 4, 1, 3, 2, 3, 0); // with 5: says 6, 1, 2; A 2, B 6
    due("task: " + text, Due.task(x, text, 5), 0);
    due("passes: " + text, x.passes(0, 0, 8), want);
    due("passes a STEP earlier: " + text, x.passes(0, 0, 7), 0);
  }

  private static void promise15() {
    String[] hold = {"n=3", "f=6", "l=2", "m=9", "x=5", "a=2", "b=6", "1=1", "1<2", "2>1", "f>l", "n<f", "1+2*3=7", "2*3+1=7",
      "9-3-2=4", "9-3+2=8", "7%4*2=6", "2*7%4=2", "5%0=0", "f%l=0", "1-7%4*2=0-5", "0-7%4=0-3", "999*999*999>0-1",
      "999*999*999*999<0-200", "!1=2", "!!1=1", "!(1=2|2=1)", "1=1|1=2&1=2", "1=2&1=2|1=1", "(1=1|1=2)&1=1", "!1=2&1=1",
      "1=1&1=1&1=1", "1=2|1=2|1=1", "1=2|1=1&1=1", "000=0", "010=10", "1=2|!1=2", "f+l+m+n+x+a+b=33", "0-f<0", "1*2*3*4=24",
      "3-2*1=1", "!(!(!1=2))", "(1=1)", "((((((1=1)))))".substring(1), "a*b=12&f*2=12", "0*1-1<0", "0-9%5=0-4",
      "2=1+1", "1+1=2*1", "1=1|1=1|1=2&1=2&1=2", "1=2&1=1|1=1&1=1", "999*999*999*999%7=0-2"};
    String[] not = {"n=2", "f=1", "l=6", "m=8", "x=6", "a=6", "b=2", "1=2", "2<1", "1<1", "1>1", "1>2", "!1=1", "!(1=1)", "1=1&1=2",
      "1=2|2=3", "(1=1|1=2)&1=2", "1=2&1=2|1=2", "1+2*3=9", "9-3-2=8", "2=1", "!1=1|1=2", "!(1=2)&1=2", "1=2&(1=2|1=1)"};
    for (String text : hold) dueAsk(text, 1);
    for (String text : not) dueAsk(text, 0);
    AllPrograms x = new AllPrograms();
    x.language(33333333);
    Due.clearAndAdd(x, 1, 2, 0);
    Due.task(x, "1=1", 7);
    Due.task(x, "n=8", 1);
    due("nothing was printed", x.passes(0, 0, 9), 0);
    Due.clearAndAdd(x, 3, 6, 0);
    due("it ENDS by the 9th SAY", x.passes(0, 1, 17), 1);
    due("not yet", x.passes(0, 1, 16), 0);
    due("not at all", x.passes(0, 1, 0), 0);
    int[][] bad = {{1, 0, 9}, {-1, 0, 9}, {0, 2, 9}, {0, -1, 9}, {0, 0, -1}, {0, 0, 1000}};
    for (int[] b : bad) due("passes(" + b[0] + ", " + b[1] + ", " + b[2] + ")", x.passes(b[0], b[1], b[2]), BAD);
    x.clear();
    due("STATE", x.passes(0, 0, 9), STATE);
    due("BAD ahead of STATE", x.passes(0, 2, 9), BAD);
    due("passes() is no run()", x.ran(0), BAD);
  }

  private static void dueSearched(String of, AllPrograms x, int... want) {
    for (int i = 0; i < 5; i++) due(of + ": searched(" + i + ")", x.searched(i), want[i]);
  }

  private static void promises16and17() {
    AllPrograms x = new AllPrograms();
    x.language(33333333);
    Due.task(x, "n=1", 0);
    Due.task(x, "n=9", 0);
    Due.task(x, "f=1", 0);
    for (int what = -1; what < 6; what++) due("searched(" + what + ") before any", x.searched(what), BAD);
    int[][] bad = {{1, 0, 9}, {-1, 0, 9}, {0, 3, 9}, {0, -1, 9}, {0, 0, 0}, {0, 0, -1}, {0, 0, 15}};
    for (int[] b : bad) due("search(" + b[0] + ", " + b[1] + ", " + b[2] + ")", x.search(b[0], b[1], b[2]), BAD);
    due("searched(0): all were BAD", x.searched(0), BAD);
    Due.clearAndAdd(x, 5, 5, 0);
    due("no PROGRAM in PHASE 2", x.search(0, 0, 2), NOT);
    dueSearched("none", x, 0, NOT, NOT, 0, 0);
    due("PHASE 3: 0 alone", x.search(0, 0, 3), NOT);
    dueSearched("PHASE 3", x, 1, NOT, NOT, 1, 0);
    due("PHASE 6: 7 more, 6 0 HANGS", x.search(0, 0, 6), NOT);
    dueSearched("PHASE 6", x, 8, NOT, NOT, 8, 1);
    due("it stays", Due.looked(x), 0x1550L);
    // PHASE 7: 1 0 and 2 0 end, 3 0 ends and passes
    for (int phases = 7; phases <= 14; phases++) {
      Due.clearAndAdd(x, 5, 5, 0);
      due("to PHASE " + phases, x.search(0, 0, phases), 7);
      dueSearched("to PHASE " + phases, x, 11, 2, 1, 8, 1);
      due("it is looked at", Due.looked(x), 0x130L);
    }
    due("searched(-1)", x.searched(-1), BAD);
    due("searched(5)", x.searched(5), BAD);
    // 0 in PHASE 3; 13 STEPS of seven; 1 1 0 to 1 3 0, in PHASES 9, 10 and 11
    due("f=1", x.search(0, 2, 14), 11);
    due("it is looked at", Due.looked(x), 0x1130L);
    due("STEPS", x.searched(1), 3);
    due("the PHASE ahead of it", x.search(0, 2, 10), NOT);
    due("the ANSWER stays", Due.looked(x), 0x1130L);
    due("BAD", x.search(0, 9, 10), BAD);
    due("the latest that was not BAD", x.searched(1), NOT);
    searchesAsTheModel();
  }

  /** Each PHASE of each search, beside the model that goes on PHASE by PHASE. */
  private static void searchesAsTheModel() {
    for (int digits : new int[] {21555555, 12555555, 33333333, 32233666, 22344455, 13444666}) {
      AllPrograms x = new AllPrograms();
      Model m = new Model();
      x.language(digits);
      m.language(digits);
      for (String text : new String[] {"n=1", "n=2", "f=1", "f>1", "f=2", "f=3", "m>3", "l=4", "f=x", "n>2", "n=8"}) {
        int input = text.length() % 2;
        due("task: " + text, Due.task(x, text, input), modelTask(m, text, input));
        if (x.count(1) == 10) break;
      }
      for (int task = 0; task < x.count(1); task++) {
        for (int phases = 1; phases <= 14; phases++) {
          String of = digits + ", " + task + ", " + phases;
          due("search: " + of, x.search(0, task, phases), m.search(0, task, phases));
          for (int i = 0; i < 5; i++) due("searched(" + i + "): " + of, x.searched(i), m.searched(i));
        }
      }
    }
  }

  private static int modelTask(Model m, String text, int input) {
    for (char c : text.toCharArray()) m.feed(1, c);
    return m.task(input);
  }

  /** What a faulty text left must not come into the next TASK. */
  private static void faultsLeaveNothing() {
    AllPrograms x = new AllPrograms();
    x.language(33333333);
    Due.clearAndAdd(x, 1, 3, 0);
    for (int i = 0; i < 3; i++) {
      Due.feed(x, "n+n+n+n+n+n+n+n+n+n+n+n+n+n+n+n+n+n+n+n+n+n+n+n+n+n+n+n+n+n+");
      due("a long text that ends too early", x.task(0), -160);
      due("task", Due.task(x, "f=" + (1 + i), 0), i);
      due("passes: f=" + (1 + i), x.passes(0, i, 9), i == 0 ? 1 : 0);
    }
    due("the longest text", Due.task(x, "n+n+n+n+n+n+n+n+n+n+n+n+n+n+n+n+n+n+n+n+n+n+n+n+n+n+n+n=28", 0), 3);
    due("passes the longest text", x.passes(0, 3, 9), 1);
    due("deep in the other way", Due.task(x, "1=2|1=2|1=2|1=2|1=2|1=2|1=2|1=2|1=2|1=2|1=2|1=2|1=2|1=2|1=10", 0), 4);
    due("does not pass", x.passes(0, 4, 9), 0);
  }

  public static void main(String[] args) {
    promise13();
    promise14();
    faultsLeaveNothing();
    promise15();
    promises16and17();
    Due.end();
  }
}
