// Promises 28 to 36: acts, shelves, and how many.
public final class ActsTest {
  private static final int BAD = -1;
  private static final long NONE = Long.MIN_VALUE;

  private static void due(String call, long got, long want) {
    Due.due(call, got, want);
  }

  private static void dueAct(AllPrograms x, int order, int act, int in, int want, int... bodies) {
    String call = "act(" + order + ", " + act + ", " + in + ")";
    due(call, x.act(order, act, in), want);
    due(call + ": count(4)", x.count(4), bodies.length);
    for (int i = 0; i < bodies.length; i++) due(call + ": trace(" + i + ")", x.trace(i), bodies[i]);
    due(call + ": trace(" + bodies.length + ")", x.trace(bodies.length), BAD);
    due(call + ": trace(-1)", x.trace(-1), BAD);
  }

  private static void promises28and29() {
    AllPrograms x = new AllPrograms();
    due("trace(0) before any", x.trace(0), BAD);
    due("act(0, 0, 5): no LANGUAGE", x.act(0, 0, 5), 0);
    x.language(22344455);
    Due.clearAndAdd(x, 1, 2, 0);
    due("learn", x.learn(0, 0, 1, 3), 1);
    for (int v : new int[] {0, 1, 7, -5, 1000, Integer.MAX_VALUE, Integer.MIN_VALUE}) {
      dueAct(x, 0, 0, v, v, 1);
      dueAct(x, 0, 1, v, v * 2, 10, 1);
      dueAct(x, 0, 2, v, -v, 20, 11);
      dueAct(x, 0, 3, v, v * 2 + 1, 2, 10, 1, 20, 11);
      for (int n : new int[] {1, 2, 5}) {
        int s = n == 1 ? 2 : n == 2 ? 3 : 4;
        dueAct(x, n, 0, v, v + n + 1, 30, 1);
        dueAct(x, n, 1, v, (v + n + 1) * s, 10, 30, 1);
        dueAct(x, n, 2, v, v ^ n, 11);
        dueAct(x, n, 3, v, (v + n + 1) * s - (1 ^ n), 2, 10, 30, 1, 11);
      }
      dueAct(x, 3, 0, v, v + 4, 30, 1);
      dueAct(x, 3, 1, v, v * 4 + 22, 40, 10, 30, 1, 30, 1);
      dueAct(x, 3, 2, v, v ^ 3, 11);
      dueAct(x, 3, 3, v, v * 4 + 20, 2, 40, 10, 30, 1, 30, 1, 11);
      dueAct(x, 4, 0, v, v + 5, 30, 1);
      dueAct(x, 4, 1, v, v * 4 + 20, 10, 30, 1);
      dueAct(x, 4, 2, v, v ^ 4, 11);
      dueAct(x, 4, 3, v, (v * 4 + 15) ^ 6, 50, 2, 10, 30, 1, 11);
      for (int n : new int[] {6, 7}) {
        dueAct(x, n, 0, v, v + n, 1);
        dueAct(x, n, 1, v, (v + n) * 5, 10, 1);
        dueAct(x, n, 2, v, (v ^ n) * 3, 60, 11);
        dueAct(x, n, 3, v, (v + n) * 5 - (1 ^ n) * 3, 2, 10, 1, 60, 11);
      }
      dueAct(x, 108, 0, v, v + 9, 70, 1);
      dueAct(x, 108, 1, v, (v + 9) * 3, 10, 70, 1);
      dueAct(x, 108, 2, v, (v ^ 8) * 3 - 30, 71, 60, 11, 10, 70, 1);
      dueAct(x, 108, 3, v, v * 3 + 30, 2, 10, 70, 1, 71, 60, 11, 10, 70, 1);
    }
    dueAct(x, 101, 0, 4, 6, 30, 1);
    int[][] none = {{8, 0}, {12, 0}, {99, 0}, {109, 0}, {200, 0}, {-1, 0}, {-100, 0}, {0, 4}, {0, -1}, {Integer.MIN_VALUE, 0},
      {Integer.MAX_VALUE, 0}, {1, 100}};
    for (int[] a : none) {
      x.act(108, 3, 1);
      dueAct(x, a[0], a[1], 77, 0);
    }
  }

  private static void promises30and35() {
    AllPrograms x = new AllPrograms();
    x.language(22344455);
    Due.clearAndAdd(x, 1, 2, 0);
    x.learn(0, 0, 1, 3);
    int[][] bad = {{-1, 0}, {6, 0}, {-1, -1}, {6, -1}, {0, -2}, {0, 8}, {0, 12}, {0, 99}, {0, 109}, {0, 200}, {0, -100},
      {0, Integer.MIN_VALUE}, {0, Integer.MAX_VALUE}};
    for (int[] b : bad) due("keep(" + b[0] + ", " + b[1] + ")", x.keep(b[0], b[1]), BAD);
    due("nothing is there", x.taken(0, 0), -11);
    int[] orders = {0, 1, 2, 3, 4, 5, 6, 7, 108};
    int[] kinds = {1, 2, 2, 3, 4, 2, 5, 5, 6};
    boolean[][] under = new boolean[7][7];
    for (int k = 0; k < 7; k++) under[k][0] = under[k][k] = true;
    under[3][2] = under[4][2] = under[6][5] = true;
    for (int i = 0; i < orders.length; i++) {
      due("keep(5, " + orders[i] + ")", x.keep(5, orders[i]), 1);
      for (int k = 0; k < 7; k++) due(orders[i] + " taken for " + k, x.taken(5, k), under[kinds[i]][k] ? kinds[i] : -12);
      due("taken(5, 7)", x.taken(5, 7), BAD);
      due("taken(5, -1)", x.taken(5, -1), BAD);
    }
    due("an ORDER has no elements: put", x.put(5, 0, 1), -12);
    due("an ORDER has no elements: element", x.element(5, 0), NONE);
    due("keep(5, -1)", x.keep(5, -1), 1);
    due("nothing is there", x.taken(5, 2), -11);
    due("BAD is named ahead", x.taken(5, 7), BAD);
    due("no such SHELF", x.taken(6, 0), BAD);
    due("no such SHELF", x.taken(-1, 0), BAD);
    x.row(5, 2, 3);
    due("a ROW is no ORDER", x.taken(5, 0), -12);
    due("keep over a ROW", x.keep(5, 3), 1);
    due("keep over a ROW", x.taken(5, 2), 3);
    due("a ROW over an ORDER", x.row(5, 3, 0), 1);
    due("a ROW over an ORDER", x.taken(5, 2), -12);
  }

  private static void promises31to33() {
    AllPrograms x = new AllPrograms();
    int[][] bad = {{-1, 0, 1}, {6, 0, 1}, {0, -1, 1}, {0, 5, 1}, {0, 0, 61}, {0, 5, -1}, {6, 0, -1}, {0, 0, Integer.MAX_VALUE}};
    for (int[] b : bad) due("row(" + b[0] + ", " + b[1] + ", " + b[2] + ")", x.row(b[0], b[1], b[2]), BAD);
    due("row(0, 0, -1)", x.row(0, 0, -1), -14);
    due("row(0, 4, least)", x.row(0, 4, Integer.MIN_VALUE), -14);
    due("nothing is there: put", x.put(0, 0, 1), -11);
    due("nothing is there: element", x.element(0, 0), NONE);
    long[] in = {0, 1, -1, 2, 127, 128, 255, 256, 32767, 32768, 65536, 0x123456789abcdef0L, Long.MIN_VALUE, Long.MAX_VALUE, 1L << 32, -129};
    for (int sort = 0; sort < 5; sort++) {
      due("row", x.row(sort, sort, 60), 1);
      for (int i = 0; i < 60; i++) due("0 at first", x.element(sort, i), 0);
      for (long v : in) {
        long want = sort == 0 ? (byte) v : sort == 1 ? (short) v : sort == 2 ? (int) v : sort == 3 ? v : v == 0 ? 0 : 1;
        due("put(" + sort + ", 59, " + v + ")", x.put(sort, 59, v), 1);
        due("element(" + sort + ", 59) of " + v, x.element(sort, 59), want);
      }
      due("its neighbour", x.element(sort, 58), 0);
      for (int i : new int[] {-1, 60, 61, Integer.MIN_VALUE, Integer.MAX_VALUE}) {
        due("put at " + i, x.put(sort, i, 1), -13);
        due("element at " + i, x.element(sort, i), NONE);
      }
    }
    due("a refused row() leaves what was", x.row(0, 1, -1), -14);
    due("a refused row() leaves what was", x.row(0, 1, 61), BAD);
    due("a refused row() leaves what was", x.element(0, 59), 127);
    due("a new ROW is 0 again", x.row(0, 0, 60), 1);
    due("a new ROW is 0 again", x.element(0, 59), 0);
    due("a shorter one", x.row(0, 2, 1), 1);
    due("a shorter one", x.put(0, 1, 5), -13);
    due("a ROW of none", x.row(0, 2, 0), 1);
    due("a ROW of none", x.put(0, 0, 5), -13);
    for (int s : new int[] {-1, 6, Integer.MAX_VALUE}) {
      due("no such SHELF", x.put(s, 0, 5), BAD);
      due("no such SHELF", x.element(s, 0), NONE);
    }
  }

  private static void dueRow(String of, AllPrograms x, int shelf, int... want) {
    for (int i = 0; i < want.length; i++) due(of + ": element(" + shelf + ", " + i + ")", x.element(shelf, i), want[i]);
  }

  private static void promise34() {
    AllPrograms x = new AllPrograms();
    x.language(33333333);
    x.row(0, 2, 6);
    x.row(1, 2, 4);
    x.row(2, 1, 6);
    x.keep(3, 5);
    for (int i = 0; i < 6; i++) x.put(0, i, i + 1);
    due("shift(0, 0, 0, 2, 4)", x.shift(0, 0, 0, 2, 4), 4);
    dueRow("as they all were before", x, 0, 1, 2, 1, 2, 3, 4);
    due("shift(0, 1, 0, 0, 5)", x.shift(0, 1, 0, 0, 5), 5);
    dueRow("as they all were before", x, 0, 2, 1, 2, 3, 4, 4);
    due("shift(0, 2, 1, 1, 3)", x.shift(0, 2, 1, 1, 3), 3);
    dueRow("to another one", x, 1, 0, 2, 3, 4);
    dueRow("it stays", x, 0, 2, 1, 2, 3, 4, 4);
    due("none, at the end", x.shift(0, 6, 1, 4, 0), 0);
    int[][] places = {{0, -1, 1, 0, 1}, {0, 0, 1, -1, 1}, {0, 0, 1, 0, 5}, {0, 3, 1, 0, 4}, {0, 7, 1, 0, 0}, {0, 0, 1, 5, 0},
      {0, 0, 1, 0, -1}, {0, 0, 1, 4, 1}, {0, Integer.MAX_VALUE, 1, 0, 1}, {0, 1, 1, 0, Integer.MAX_VALUE},
      {0, Integer.MAX_VALUE, 1, Integer.MAX_VALUE, Integer.MAX_VALUE}, {0, 0, 0, 1, 6}, {0, 0, 1, Integer.MIN_VALUE, 1}};
    for (int[] p : places) due("places " + p[1] + ", " + p[3] + ", " + p[4], x.shift(p[0], p[1], p[2], p[3], p[4]), -13);
    due("unlike sorts", x.shift(0, 0, 2, 0, 1), -12);
    due("unlike sorts, no places", x.shift(0, 9, 2, 9, -1), -12);
    due("an ORDER", x.shift(0, 0, 3, 0, 1), -12);
    due("an ORDER", x.shift(3, 0, 0, 0, 1), -12);
    due("an ORDER", x.shift(3, 0, 3, 0, 0), -12);
    due("nothing is there", x.shift(0, 0, 4, 0, 1), -11);
    due("nothing is there", x.shift(4, 0, 0, 0, 1), -11);
    due("nothing is there, beside an ORDER", x.shift(3, 0, 4, 0, 1), -11);
    due("nothing is there, beside an ORDER", x.shift(4, 9, 3, 9, -1), -11);
    due("no such SHELF", x.shift(6, 0, 0, 0, 1), BAD);
    due("no such SHELF", x.shift(0, 0, 6, 0, 1), BAD);
    due("no such SHELF", x.shift(4, 0, -1, 0, 1), BAD);
    dueRow("refused ones change nothing", x, 1, 0, 2, 3, 4);
    dueRow("refused ones change nothing", x, 0, 2, 1, 2, 3, 4, 4);
  }

  private static void promise36() {
    AllPrograms x = new AllPrograms();
    for (int what : new int[] {-1, 5, Integer.MIN_VALUE, Integer.MAX_VALUE}) due("count(" + what + ")", x.count(what), BAD);
    x.language(33333333);
    x.language(44444444);
    for (int i = 0; i < 3; i++) Due.task(x, "n=1", i);
    Due.feed(x, "n=1&f");
    Due.say(x, 1, 2, 3, 4, 5, 6);
    x.act(3, 3, 1);
    int[] want = {2, 3, 5, 6, 8};
    for (int what = 0; what < 5; what++) due("count(" + what + ")", x.count(what), want[what]);
  }

  public static void main(String[] args) {
    promises28and29();
    promises30and35();
    promises31to33();
    promise34();
    promise36();
    Due.end();
  }
}
