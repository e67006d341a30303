import java.util.List;

// Promises 1 to 12: a new object, languages, programs and the machine.
public final class LanguagesTest {
  private static final int BAD = -1, NOT = -2, FULL = -3, STATE = -5;

  private static void due(String call, long got, long want) {
    Due.due(call, got, want);
  }

  private static void promise1() {
    AllPrograms x = new AllPrograms();
    for (int what = 0; what < 5; what++) due("new: count(" + what + ")", x.count(what), 0);
    due("new: of(0, 0)", x.of(0, 0), BAD);
    due("new: size(0)", x.size(0), BAD);
    due("new: next(0)", x.next(0), BAD);
    due("new: search(0, 0, 1)", x.search(0, 0, 1), BAD);
    due("new: price(0, 0)", x.price(0, 0), -2000000000);
    due("new: clear()", x.clear(), 0);
    due("new: unsay()", x.unsay(), 0);
    for (int shelf = 0; shelf < 6; shelf++) due("new: taken(" + shelf + ", 0)", x.taken(shelf, 0), -11);
  }

  private static void promise2() {
    AllPrograms x = new AllPrograms();
    int[] bad = {0, -1, -22344455, 2234445, 223444551, 722344455, 72344455, 2344455, 22344450, 22044455, 22344457,
      22844455, 92344455, Integer.MIN_VALUE, Integer.MAX_VALUE};
    for (int digits : bad) due("language(" + digits + ")", x.language(digits), BAD);
    int[] above = {11111111, 22222222, 33333332, 11666666, 21233444};
    for (int digits : above) due("language(" + digits + ")", x.language(digits), STATE);
    due("refused ones are none", x.count(0), 0);
    int[] good = {33333333, 22344455, 66666666, 16666666, 66666661, 24354546};
    for (int i = 0; i < 6; i++) due("language(" + good[i] + ")", x.language(good[i]), i);
    due("a 7th", x.language(33333333), FULL);
    due("a 7th that is bad", x.language(33333330), BAD);
    due("a 7th that is too large: STATE is named ahead of FULL", x.language(11111111), STATE);
    due("count(0)", x.count(0), 6);
  }

  private static void promise3() {
    AllPrograms x = new AllPrograms();
    x.language(22344455);
    x.language(65432666);
    x.language(65432266);
    due("0 ORDERS", x.of(0, 0), 8);
    due("1 the sum", x.of(0, 1), 56);
    int[] bits = {2, 2, 3, 4, 4, 4, 5, 5};
    int[] codes = {0, 1, 4, 10, 11, 12, 26, 27};
    for (int o = 0; o < 8; o++) {
      due("of(0, 10 + " + o + ")", x.of(0, 10 + o), bits[o]);
      due("of(0, 30 + " + o + ")", x.of(0, 30 + o), codes[o]);
    }
    for (int what : new int[] {-1, 2, 9, 18, 19, 21, 22, 29, 38, 41, 42, 100, Integer.MIN_VALUE, Integer.MAX_VALUE}) {
      due("of(0, " + what + ")", x.of(0, what), BAD);
    }
    for (int l : new int[] {-1, 3, 6, Integer.MAX_VALUE}) due("of(" + l + ", 0)", x.of(l, 0), BAD);
    // 65432666 and 65432266: the last ORDERS have the shortest CODES
    due("of(1, 1)", x.of(1, 1), 1 + 2 + 4 + 8 + 16 + 1 + 1 + 1);
    due("of(1, 34)", x.of(1, 34), 0);
    due("of(1, 30)", x.of(1, 30), 0b011110);
    due("of(1, 35)", x.of(1, 35), 0b011111);
    due("of(1, 36)", x.of(1, 36), 0b100000);
    int[] second = {6, 5, 4, 3, 2, 2, 6, 6};
    int[] later = {0b101110, 0b10110, 0b1010, 0b100, 0b00, 0b01, 0b101111, 0b110000};
    due("of(2, 1)", x.of(2, 1), 1 + 2 + 4 + 8 + 16 + 16 + 1 + 1);
    for (int o = 0; o < 8; o++) {
      due("of(2, 10 + " + o + ")", x.of(2, 10 + o), second[o]);
      due("of(2, 30 + " + o + ")", x.of(2, 30 + o), later[o]);
    }
  }

  private static void promise4() {
    AllPrograms x = new AllPrograms();
    x.language(44444444);
    Due.clearAndAdd(x, 1, 7, 6, 5, 0);
    due("no PARTS", x.part(0, 8, -1), BAD);
    due("learn(0, 0, 3, 5)", x.learn(0, 0, 3, 5), 1);
    due("learn(1, 1, 2, 2)", x.learn(1, 1, 2, 2), 2);
    due("part(1, 8, -1)", x.part(1, 8, -1), 4);
    int[] part = {1, 7, 6, 5};
    for (int i = 0; i < 4; i++) due("part(2, 8, " + i + ")", x.part(2, 8, i), part[i]);
    due("part(2, 9, -1)", x.part(2, 9, -1), 2);
    due("part(2, 9, 0)", x.part(2, 9, 0), 7);
    due("part(2, 9, 1)", x.part(2, 9, 1), 6);
    int[][] bad = {{2, 9, 2}, {2, 9, -2}, {2, 8, 4}, {2, 7, 0}, {2, 7, -1}, {2, 10, -1}, {2, 12, -1}, {1, 9, -1}, {0, 8, -1},
      {3, 8, -1}, {-1, 8, -1}, {2, -1, -1}, {2, 9, Integer.MAX_VALUE}, {2, Integer.MIN_VALUE, 0}};
    for (int[] a : bad) due("part(" + a[0] + ", " + a[1] + ", " + a[2] + ")", x.part(a[0], a[1], a[2]), BAD);
  }

  private static void promises5to8() {
    AllPrograms x = new AllPrograms();
    x.language(22344455);
    due("size of the empty one", x.size(0), STATE);
    for (int order : new int[] {-1, 12, 100, Integer.MIN_VALUE}) due("add(" + order + ")", x.add(order), BAD);
    for (int i = 1; i <= 12; i++) due("add " + i, x.add(i % 7 + 1), i);
    due("a 13th", x.add(1), FULL);
    due("a 13th 0", x.add(0), FULL);
    due("a 13th that is none", x.add(12), BAD);
    due("order(-1)", x.order(-1), 12);
    for (int i = 0; i < 12; i++) due("order(" + i + ")", x.order(i), (i + 1) % 7 + 1);
    due("order(12)", x.order(12), BAD);
    due("order(-2)", x.order(-2), BAD);
    due("size: 0 is not the last one", x.size(0), STATE);
    due("clear()", x.clear(), 12);
    due("order(0)", x.order(0), BAD);
    due("clear()", x.clear(), 0);
    for (int i = 1; i <= 11; i++) x.add(7);
    due("a 12th", x.add(0), 12);
    due("behind ORDER 0, and a 13th", x.add(1), BAD);
    due("size of 12", x.size(0), 11 * 5 + 2);
    Due.clearAndAdd(x, 3, 0);
    due("behind ORDER 0", x.add(3), BAD);
    due("behind ORDER 0", x.add(0), BAD);
    due("size(0)", x.size(0), 6);
    due("size(1)", x.size(1), BAD);
    due("size(-1)", x.size(-1), BAD);
    Due.clearAndAdd(x, 8, 0);
    due("add takes ORDERS that no LANGUAGE has", x.order(-1), 2);
    due("an ORDER that it has not", x.size(0), STATE);
    Due.clearAndAdd(x, 1, 2, 0);
    due("learn", x.learn(0, 0, 1, 3), 1);
    Due.clearAndAdd(x, 8, 1, 0);
    due("size with a PART", x.size(1), 3 + 2 + 2);
    due("size with a PART that it has not", x.size(0), STATE);
  }

  private static void promise9() {
    AllPrograms x = new AllPrograms();
    x.language(22344455); // CODES 00 01 100 1010 1011 1100 11010 11011; 111 begins none
    Due.bits(x, 0, "1101001100101000");
    due("read(0, 0, 0)", x.read(0, 0, 0), 5 + 2 + 3 + 4 + 2);
    due("what was read", Due.looked(x), 0x161230L);
    due("read(0, 0, 5)", x.read(0, 0, 5), 2 + 3 + 4 + 2);
    due("what was read", Due.looked(x), 0x11230L);
    due("read(0, 0, 14)", x.read(0, 0, 14), 2);
    due("what was read", Due.looked(x), 0x10L);
    due("it ends within a CODE", x.read(0, 0, 15), NOT);
    due("it ends ahead of one", x.read(0, 0, 16), NOT);
    due("it ended long ago", x.read(0, 0, 1000), NOT);
    due("it stays", Due.looked(x), 0x10L);
    due("no such LANGUAGE", x.read(1, 0, 0), BAD);
    due("no such LANGUAGE", x.read(-1, 0, 0), BAD);
    due("no such SHELF", x.read(0, 6, 0), BAD);
    due("no such SHELF", x.read(0, -1, 0), BAD);
    due("nothing there is missing", x.read(0, 1, 0), NOT);
    for (int sort = 0; sort < 4; sort++) {
      x.row(1, sort, 20);
      due("a ROW of sort " + sort, x.read(0, 1, 0), -12);
    }
    x.keep(1, 3);
    due("an ORDER", x.read(0, 1, 0), -12);
    Due.bits(x, 2, "");
    due("a ROW of none", x.read(0, 2, 0), NOT);
    Due.bits(x, 2, "0111111100");
    due("no CODE", x.read(0, 2, 0), STATE);
    Due.bits(x, 2, "01010101010101010101010100");
    due("12 ORDERS and 0: a 13th", x.read(0, 2, 0), STATE);
    due("11 ORDERS and 0", x.read(0, 2, 2), 24);
    due("what was read", x.order(-1), 12);
    Due.bits(x, 2, "0101010101010101010101010101");
    due("a 13th that is not 0", x.read(0, 2, 0), STATE);
    due("it ends ahead of 0", x.read(0, 2, 8), NOT);
    due("it stays", x.order(-1), 12);
    x.put(2, 27, 2);
    x.put(2, 26, 0);
    x.put(2, 25, -8);
    x.put(2, 24, 0);
    due("what is put is 0 or 1", x.read(0, 2, 24), NOT);
  }

  private static final int[] NO_PLACES = {-1, -2, -60, Integer.MIN_VALUE, 61, Integer.MAX_VALUE};

  /** The host refuses a place that is not there: NOT, ahead of a ROW as behind it; no place makes BAD of the rest. */
  private static void promise9NoPlaces() {
    AllPrograms x = new AllPrograms();
    x.language(22344455);
    Due.bits(x, 0, "1101001100101000");
    x.read(0, 0, 5);
    Due.bits(x, 1, "00000000"); // ORDER 0 at each place, should one be looked at
    Due.bits(x, 2, "");
    x.keep(4, 3);
    for (int i : NO_PLACES) {
      due("a ROW's place " + i, x.read(0, 0, i), NOT);
      due("a ROW of 0s, place " + i, x.read(0, 1, i), NOT);
      due("a ROW of none, place " + i, x.read(0, 2, i), NOT);
      due("nothing is there, place " + i, x.read(0, 3, i), NOT);
      due("an ORDER, place " + i, x.read(0, 4, i), -12);
      for (int sort = 0; sort < 4; sort++) {
        x.row(5, sort, 20);
        due("a ROW of sort " + sort + ", place " + i, x.read(0, 5, i), -12);
      }
      due("no such LANGUAGE, place " + i, x.read(1, 0, i), BAD);
      due("no such SHELF, place " + i, x.read(0, 6, i), BAD);
      due("no such SHELF, place " + i, x.read(0, -1, i), BAD);
      due("it stays", Due.looked(x), 0x11230L);
    }
    x.keep(0, -1);
    due("the SHELF was emptied", x.read(0, 0, -1), NOT);
    AllPrograms y = new AllPrograms();
    due("no LANGUAGE yet", y.read(0, 0, -1), BAD);
  }

  private static void dueRun(AllPrograms x, int input, int t, int state, int steps, int a, int b, int... said) {
    String of = Long.toHexString(Due.looked(x)).substring(1) + " run with " + input + " for " + t;
    due(of, x.run(0, input, t), state);
    due(of + ": STEPS", x.ran(0), steps);
    due(of + ": A", x.ran(1), a);
    due(of + ": B", x.ran(2), b);
    due(of + ": how many", x.ran(3), said.length);
    for (int i = 0; i < said.length; i++) due(of + ": ran(10 + " + i + ")", x.ran(10 + i), said[i]);
    due(of + ": one more", x.ran(10 + said.length), BAD);
  }

  private static void promises10and11() {
    AllPrograms x = new AllPrograms();
    x.language(33333333);
    Due.clearAndAdd(x, 0);
    for (int what : new int[] {0, 1, 2, 3, 10}) due("ran(" + what + ") before any", x.ran(what), BAD);
    due("no such LANGUAGE", x.run(1, 0, 9), BAD);
    int[] wrong = {-1, 1000, Integer.MIN_VALUE, Integer.MAX_VALUE};
    for (int w : wrong) due("input " + w, x.run(0, w, 9), BAD);
    for (int w : wrong) due("t " + w, x.run(0, 9, w), BAD);
    due("ran(0): all were refused", x.ran(0), BAD);
    dueRun(x, 999, 999, 0, 1, 999, 0);
    dueRun(x, 0, 0, 2, 0, 0, 0);
    Due.clearAndAdd(x, 1, 0);
    dueRun(x, 999, 2, 0, 2, 0, 0);
    dueRun(x, 7, 1, 2, 1, 8, 0);
    Due.clearAndAdd(x, 2, 0);
    dueRun(x, 600, 9, 0, 2, 200, 0);
    Due.clearAndAdd(x, 3, 3, 2, 3, 0);
    dueRun(x, 11, 9, 0, 5, 22, 0, 11, 11, 22);
    Due.clearAndAdd(x, 1, 4, 1, 1, 5, 0);
    dueRun(x, 998, 9, 0, 6, 1, 999);
    dueRun(x, 5, 3, 2, 3, 1, 6);
    Due.clearAndAdd(x, 6, 0);
    dueRun(x, 19, 9, 1, 1, 19, 0);
    dueRun(x, 20, 9, 0, 2, 20, 0);
    dueRun(x, 0, 1, 1, 1, 0, 0);
    Due.clearAndAdd(x, 2, 6, 0);
    dueRun(x, 500, 3, 2, 3, 0, 0);
    dueRun(x, 500, 4, 1, 4, 0, 0);
    due("no such thing", x.ran(4), BAD);
    due("no such thing", x.ran(9), BAD);
    due("no such thing", x.ran(-1), BAD);
    due("no such thing", x.ran(Integer.MAX_VALUE), BAD);
    Due.clearAndAdd(x, 3, 6, 0);
    dueRun(x, 7, 16, 2, 16, 7, 0, 7, 7, 7, 7, 7, 7, 7, 7);
    dueRun(x, 7, 17, 0, 17, 7, 0, 7, 7, 7, 7, 7, 7, 7, 7);
    due("STATE", refusedRun(x, 1), STATE);
    due("ran(0): of the latest that was not refused", x.ran(0), 17);
  }

  private static int refusedRun(AllPrograms x, int order) {
    Due.clearAndAdd(x, order);
    return x.run(0, 0, 9);
  }

  private static void skipsAndHangs() {
    AllPrograms x = new AllPrograms();
    x.language(33333333);
    Due.clearAndAdd(x, 7, 3, 1, 0);
    dueRun(x, 4, 9, 0, 4, 5, 0, 4);
    dueRun(x, 5, 9, 0, 3, 6, 0);
    Due.clearAndAdd(x, 1, 7, 0);
    dueRun(x, 0, 1, 2, 1, 1, 0);
    dueRun(x, 0, 2, 0, 2, 1, 0); // behind the last ORDER, without a STEP
    dueRun(x, 1, 9, 0, 3, 2, 0);
    // SWAP and BACK: (5, 0), (0, 5), (5, 0)
    Due.clearAndAdd(x, 4, 6, 0);
    dueRun(x, 5, 3, 2, 3, 5, 0);
    dueRun(x, 5, 4, 1, 4, 5, 0);
    // A is even: printed, and on; A 19 at last
    Due.clearAndAdd(x, 7, 3, 1, 6, 0);
    dueRun(x, 14, 99, 0, 22, 20, 0, 14, 16, 18);
    // one print, then the same time twice: 20 is printed, 1000 halves are none
    Due.clearAndAdd(x, 3, 2, 7, 6, 0);
    dueRun(x, 500, 99, 0, 33, 0, 0, 500, 0, 0, 0, 0, 0, 0, 0);
    // HANGS behind a print: SKIP passes over SAY as soon as A is odd
    Due.clearAndAdd(x, 7, 3, 7, 1, 6, 0);
    dueRun(x, 2, 7, 2, 7, 3, 0, 2);
    dueRun(x, 2, 99, 1, 8, 3, 0, 2);
  }

  private static void partsRun() {
    AllPrograms x = new AllPrograms();
    x.language(44444444);
    Due.clearAndAdd(x, 3, 1, 6, 0);
    due("learn", x.learn(0, 0, 2, 3), 1);
    Due.clearAndAdd(x, 1, 7, 0);
    due("learn", x.learn(1, 0, 1, 3), 2);
    Due.clearAndAdd(x, 8, 0);
    due("BACK of a PART: the first ORDER of all", x.run(2, 16, 99), 0);
    due("each of a PART's ORDERS is a STEP", x.ran(0), 13);
    due("last", x.ran(13), 19);
    Due.clearAndAdd(x, 9, 3, 1, 0);
    due("SKIP of a PART", x.run(2, 4, 99), 0);
    due("SKIP passes over what is behind the PART", x.ran(0), 4);
    due("nothing was printed", x.ran(3), 0);
    due("A", x.ran(1), 6);
    Due.clearAndAdd(x, 7, 8, 0);
    due("SKIP ahead of a PART", x.run(2, 21, 99), 0);
    due("the PART's first ORDER is passed over", x.ran(3), 0);
    due("the others are not", x.ran(1), 22);
    due("STEPS", x.ran(0), 4);
  }

  private static void promise12() {
    AllPrograms x = new AllPrograms();
    x.language(22344455);
    int[] sizes = {2, 4, 5, 6, 6, 6, 6, 7, 7, 7, 7};
    long[] rows = {0x10, 0x110, 0x120, 0x1110, 0x130, 0x140, 0x150, 0x1120, 0x1210, 0x160, 0x170};
    for (int i = 0; i < sizes.length; i++) {
      due("next " + i, x.next(0), sizes[i]);
      due("next " + i + " is", Due.looked(x), rows[i]);
    }
    due("BAD", x.next(1), BAD);
    due("BAD", x.next(-1), BAD);
    Due.clearAndAdd(x, 1);
    due("no PROGRAM", x.next(0), STATE);
    Due.clearAndAdd(x, 8, 0);
    due("no PROGRAM of it", x.next(0), STATE);
    due("it stays", Due.looked(x), 0x180L);
    Due.clearAndAdd(x, 7, 7, 7, 0);
    due("one of SIZE 17", x.next(0), NOT);
    due("it stays", Due.looked(x), 0x17770L);
    x.language(66666666);
    x.clear();
    due("of 6 bits each", x.next(1), 6);
    due("of 6 bits each", x.next(1), 12);
    for (int i = 2; i <= 7; i++) due("of 6 bits each", x.next(1), 12);
    due("none to SIZE 14", x.next(1), NOT);
    due("it stays", Due.looked(x), 0x170L);
    x.language(21555555); // 12 times ONE and 0 have 14 bits: more than 12 ORDERS
    Due.clearAndAdd(x, 1, 1, 1, 1, 1, 1, 1, 1, 1, 1, 1, 0);
    due("12 ORDERS", x.size(2), 13);
    int walked = 0;
    while (x.next(2) == 13) walked++;
    due("the first one of SIZE 14", x.size(2), 14);
    due("it has 7 ONEs, 2 and 0", Due.looked(x), 0x1111111120L);
    walkAll(22344455, 33333333, 66666666, 16666666, 21555555, 15555555, 32233666, 61233456, 32223666);
  }

  private static void walkAll(int... languages) {
    for (int digits : languages) {
      AllPrograms x = new AllPrograms();
      Model m = new Model();
      due("language(" + digits + ")", x.language(digits), m.language(digits));
      if (m.langs.isEmpty()) continue;
      List<Model.Prog> all = m.langs.get(0).upTo(14);
      for (Model.Prog p : all) {
        due("next: " + digits, x.next(0), p.bits().length());
        long row = 1;
        for (int order : p.orders()) row = row * 16 + order;
        due("next is: " + digits, Due.looked(x), row);
      }
      due("next behind all: " + digits, x.next(0), NOT);
    }
  }

  public static void main(String[] args) {
    promise1();
    promise2();
    promise3();
    promise4();
    promises5to8();
    promise9();
    promise9NoPlaces();
    promises10and11();
    skipsAndHangs();
    partsRun();
    promise12();
    Due.end();
  }
}
