// Promises 23 to 27: new LANGUAGES from what helped, and what they cost.
public final class LearningTest {
  private static final int BAD = -1, NOT = -2, FULL = -3, STATE = -5, VOID = -2000000000;

  private static void due(String call, long got, long want) {
    Due.due(call, got, want);
  }

  private static void dueBits(String of, AllPrograms x, int language, int... bits) {
    due(of + ": how many ORDERS", x.of(language, 0), bits.length);
    for (int o = 0; o < bits.length; o++) due(of + ": ORDER " + o, x.of(language, 10 + o), bits[o]);
    due(of + ": one more", x.of(language, 10 + bits.length), BAD);
  }

  private static void promise23() {
    AllPrograms x = new AllPrograms();
    x.language(44444444);
    x.language(33333333);
    Due.clearAndAdd(x, 1, 2, 3);
    due("no PROGRAM", x.helped(0), STATE);
    due("no LANGUAGE", x.helped(2), BAD);
    due("no LANGUAGE", x.helped(-1), BAD);
    // 8 times 4 / 64; 0, 2, 3 and 7: 4 more each, unlike ones once
    Due.clearAndAdd(x, 7, 3, 7, 2, 7, 0);
    due("helped(0)", x.helped(0), 2);
    dueBits("helped", x, 2, 3, 4, 3, 3, 4, 4, 4, 3);
    due("the sum", x.of(2, 1), 48);
    dueBits("the one it came from", x, 0, 4, 4, 4, 4, 4, 4, 4, 4);
    due("CODES are new: ORDER 0", x.of(2, 30), 0);
    due("CODES are new: ORDER 7", x.of(2, 37), 3);
    due("CODES are new: ORDER 1", x.of(2, 31), 8);
    due("the PROGRAM stays", Due.looked(x), 0x1737270L);
    // 48 / 64: ORDERS by numbers, 0 comes to 2 bits (56), 2 to 2 (64), 3 and 7 find no room
    due("helped(2)", x.helped(2), 3);
    dueBits("helped twice", x, 3, 2, 4, 2, 3, 4, 4, 4, 3);
    due("the sum is 1", x.of(3, 1), 64);
    due("no room at all: a LANGUAGE all the same", x.helped(1), 4);
    dueBits("no room", x, 4, 3, 3, 3, 3, 3, 3, 3, 3);
    Due.clearAndAdd(x, 1, 1);
    due("STATE", x.helped(3), STATE);
    due("language(16666666)", x.language(16666666), 5);
    due("FULL: STATE is named ahead", x.helped(5), STATE);
    x.add(0);
    due("FULL", x.helped(5), FULL);
    due("BAD ahead of FULL", x.helped(6), BAD);
    AllPrograms y = new AllPrograms();
    y.language(16666666); // 32 and 7: END cannot come to 0 bits
    Due.clearAndAdd(y, 6, 6, 0);
    due("helped", y.helped(0), 1);
    dueBits("1 bit", y, 1, 1, 6, 6, 6, 6, 6, 5, 6);
    // one that finds no room does not keep a later one from it: 0 needs 16, 3 needs 8, 7 needs 1
    y.language(24435366);
    Due.clearAndAdd(y, 3, 7, 0);
    due("the sum", y.of(2, 1), 16 + 4 + 4 + 8 + 2 + 8 + 1 + 1);
    due("helped", y.helped(2), 3);
    dueBits("0 and 7 have room, 3 has none", y, 3, 1, 4, 4, 3, 5, 3, 6, 5);
    due("helped", y.helped(3), 4);
    dueBits("0 and 3 have none, 7 has", y, 4, 1, 4, 4, 3, 5, 3, 6, 4);
  }

  private static void promise24() {
    AllPrograms x = new AllPrograms();
    x.language(54545466);
    Due.clearAndAdd(x, 1, 2, 3, 4, 5, 6, 7, 0);
    int[][] bad = {{1, 0, 1, 6}, {-1, 0, 1, 6}, {0, -1, 1, 6}, {0, 0, 0, 6}, {0, 1, 0, 6}, {0, 0, 4, 6}, {0, 6, 7, 6}, {0, 7, 8, 6},
      {0, 8, 9, 6}, {0, 0, 1, 0}, {0, 0, 1, 7}, {0, 0, 1, -1}, {0, Integer.MIN_VALUE, Integer.MAX_VALUE, 6},
      {0, Integer.MAX_VALUE, Integer.MIN_VALUE, 6}, {0, -3, -1, 6}, {0, 0, Integer.MAX_VALUE, 6}};
    for (int[] b : bad) due("learn(" + b[0] + ", " + b[1] + ", " + b[2] + ", " + b[3] + ")", x.learn(b[0], b[1], b[2], b[3]), BAD);
    due("the sum", x.of(0, 1), 2 + 4 + 2 + 4 + 2 + 4 + 1 + 1);
    due("the sum would be above 1", x.learn(0, 0, 1, 1) * 100 + x.count(0), 1 * 100 + 2);
    due("32 and 20: 16 more", x.learn(1, 0, 1, 2), STATE);
    due("32 and 20: 8 more", x.learn(1, 3, 6, 3), 2);
    due("a PART of 4", x.part(2, 9, -1), 4);
    due("a PART of 4", x.part(2, 9, 3), 7);
    due("the first PART", x.part(2, 8, 1), 2);
    due("its BITS", x.of(2, 18), 1);
    due("their BITS", x.of(2, 19), 3);
    due("the PROGRAM stays", x.order(-1), 8);
    Due.clearAndAdd(x, 1, 8, 1, 2, 0);
    due("8 is among them", x.learn(2, 0, 1, 6), BAD);
    due("8 is among them", x.learn(2, 1, 2, 6), BAD);
    due("no PROGRAM of the LANGUAGE", x.learn(0, 2, 3, 6), STATE);
    due("beside a PART", x.learn(2, 2, 3, 6), 3);
    due("the sum", x.of(3, 1), 61);
    due("a 4th", x.learn(3, 2, 3, 6), 4);
    due("the sum", x.of(4, 1), 62);
    due("12 ORDERS", x.of(4, 0), 12);
    due("4 PARTS", x.learn(4, 2, 3, 6), BAD);
    due("the last one's BITS", x.of(4, 21), 6);
    due("the last one's CODE", x.of(4, 41), 61);
    Due.clearAndAdd(x, 11, 11, 0);
    due("size", x.size(4), 6 + 6 + 5);
    due("run", x.run(4, 3, 9), 0);
    due("ran: 1 2 1 2 0", x.ran(1), 18);
    due("another LANGUAGE", x.language(66666666), 5);
    Due.clearAndAdd(x, 1, 2, 3);
    due("FULL: STATE is named ahead", x.learn(0, 0, 1, 6), STATE);
    x.add(0);
    due("FULL", x.learn(0, 0, 1, 6), FULL);
    due("FULL: the sum would be above 1", x.learn(1, 0, 1, 2), STATE);
    due("FULL: BAD is named ahead", x.learn(0, 0, 3, 6), BAD);
  }

  private static void promise25() {
    AllPrograms x = new AllPrograms();
    x.language(33333333);
    x.language(22344455);
    x.language(35353535);
    Due.task(x, "n=1", 0);
    Due.task(x, "n=9", 0);
    due("with itself", x.cheaper(0, 0, 0, 14), 0);
    // 11 STEPS in 0; in 1: 0, 1 0, 2 0, then 3 0 in PHASE 7
    due("search(1, 0, 14)", x.search(1, 0, 14), 7);
    int one = x.searched(0);
    due("search(0, 0, 14)", x.search(0, 0, 14), 7);
    int zero = x.searched(0);
    due("11 STEPS", zero, 11);
    Due.clearAndAdd(x, 5);
    due("the other way", x.cheaper(1, 0, 0, 14), one - zero);
    due("cheaper(0, 1, 0, 14)", x.cheaper(0, 1, 0, 14), zero - one);
    due("it is no search(): searched", x.searched(0), zero);
    due("it is no search(): looked at", Due.looked(x), 0x15L);
    due("both find it in PHASE 7", x.cheaper(0, 1, 0, 7), zero - one);
    due("none finds it to PHASE 6", x.cheaper(0, 1, 0, 6), VOID);
    due("one finds none to PHASE 7", x.cheaper(0, 2, 0, 7), VOID);
    due("one finds none to PHASE 7", x.cheaper(2, 0, 0, 7), VOID);
    due("there is none", x.cheaper(0, 1, 1, 14), VOID);
    int[][] bad = {{3, 0, 0, 9}, {-1, 0, 0, 9}, {0, 3, 0, 9}, {0, -1, 0, 9}, {0, 0, 2, 9}, {0, 0, -1, 9}, {0, 0, 0, 0}, {0, 0, 0, 15},
      {0, 0, 0, -1}};
    for (int[] b : bad) due("cheaper(" + b[0] + ", " + b[1] + ", " + b[2] + ", " + b[3] + ")", x.cheaper(b[0], b[1], b[2], b[3]), VOID);
  }

  private static void promise26() {
    AllPrograms x = new AllPrograms();
    x.language(33333333);
    x.language(66666666);
    x.language(24354546);
    due("price(0, 1)", x.price(0, 1), 3);
    due("price(1, 0): below 0", x.price(1, 0), -3);
    due("price(0, 0)", x.price(0, 0), 0);
    due("price(0, 2)", x.price(0, 2), 3);
    due("price(2, 0)", x.price(2, 0), 1);
    due("price(2, 1)", x.price(2, 1), 4);
    due("price(1, 2)", x.price(1, 2), 0);
    Due.clearAndAdd(x, 1, 2, 0);
    due("learn", x.learn(2, 0, 1, 3), 3);
    due("PARTS have no price", x.price(2, 3), 0);
    due("PARTS have no price", x.price(3, 1), 4);
    for (int l : new int[] {-1, 4, 100}) {
      due("price(" + l + ", 0)", x.price(l, 0), VOID);
      due("price(0, " + l + ")", x.price(0, l), VOID);
    }
  }

  private static void promise27() {
    AllPrograms x = new AllPrograms();
    x.language(44444444);
    x.language(24354546);
    Due.clearAndAdd(x, 1, 7, 6, 2, 0);
    due("learn", x.learn(0, 0, 3, 4), 2);
    due("translated(0, 1)", x.translated(0, 1), 4 + 6 + 4 + 3 + 2);
    due("translated(1, 0)", x.translated(1, 0), 20);
    due("translated(0, 0)", x.translated(0, 0), 20);
    Due.clearAndAdd(x, 8, 3, 8, 0);
    due("no PROGRAM of the one", x.translated(0, 1), STATE);
    due("translated(2, 1)", x.translated(2, 1), 17 + 5 + 17 + 2);
    due("translated(2, 2): PARTS written out", x.translated(2, 2), 40);
    due("the PROGRAM stays", Due.looked(x), 0x18380L);
    Due.clearAndAdd(x, 8, 3, 3, 3, 8, 0);
    due("12 ORDERS", x.translated(2, 0), 48);
    Due.clearAndAdd(x, 8, 3, 3, 3, 3, 8, 0);
    due("13 ORDERS", x.translated(2, 0), NOT);
    Due.clearAndAdd(x, 8, 8, 8);
    due("STATE ahead of NOT", x.translated(2, 0), STATE);
    x.clear();
    due("STATE", x.translated(2, 0), STATE);
    for (int l : new int[] {-1, 3, 100}) {
      due("translated(" + l + ", 0)", x.translated(l, 0), BAD);
      due("translated(0, " + l + ")", x.translated(0, l), BAD);
    }
  }

  public static void main(String[] args) {
    promise23();
    promise24();
    promise25();
    promise26();
    promise27();
    Due.end();
  }
}
