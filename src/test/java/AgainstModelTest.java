import java.lang.reflect.Method;
import java.util.Arrays;
import java.util.HashMap;
import java.util.Map;
import java.util.Random;

// All promises: runs of 512 calls, the same each time, on a new object and on the model beside it.
public final class AgainstModelTest {
  private static final int RUNS = 800, CALLS = 512;
  private static final int[] EDGES = {Integer.MIN_VALUE, -1000001, -100, -14, -2, -1, 0, 1, 2, 3, 4, 5, 6, 7, 8, 9, 10,
    11, 12, 13, 14, 15, 17, 29, 30, 31, 41, 42, 59, 60, 61, 99, 100, 200, 201, 999, 1000, 1001, 1200, 12200, 12201,
    13001, 12000, 600, 999999, Integer.MAX_VALUE};
  private static final String[] ASKS = {"n=1", "f=5", "l>f&n>1", "m=x*2|f=x+1", "!f=x&n=2", "(n=2|n=3)&l=f*2", "a=b",
    "f%2=1&n>2", "m-f>x", "f=x", "f=x*2", "n>1&!(f=l)", "b>a", "((((f>3))))", "m=30", "l=12", "f=8|n=4&l=3", "m%n=0&n>2",
    "!!!!!f=0", "(((((f=1)))))", "((((((f=1))))))", "f=1&", "f==1", "x<f*f*f", "1-f<0-3", "f=1=2", "n", "(n=1", "12345=f",
    "f=999+1|l=000", "!(n<2)&!(m<9)", "f%0=0", "n=9", "n=8", "n=7", "f*999*999*999*999%7<0", "1=1", "a>b|x=f&m>3|n=2"};

  private static Random random;
  private static AllPrograms x;
  private static Model m;
  private static int run;
  private static final Map<String, Method> OURS = new HashMap<>(), THEIRS = new HashMap<>();

  private static int both(String name, Object... args) throws ReflectiveOperationException {
    Number got = (Number) OURS.get(name).invoke(x, args);
    Number want = (Number) THEIRS.get(name).invoke(m, args);
    Due.due("run " + run + ": " + name + Arrays.toString(args), got.longValue(), want.longValue());
    return want.intValue();
  }

  private static int pick(int... some) {
    return some[random.nextInt(some.length)];
  }

  /** Mostly below n, at times an edge. */
  private static int to(int n) {
    return random.nextInt(15) == 0 ? pick(EDGES) : random.nextInt(n);
  }

  private static int lang() {
    return random.nextInt(25) == 0 ? pick(EDGES) : random.nextInt(Math.max(1, m.langs.size()));
  }

  private static int task() {
    return random.nextInt(25) == 0 ? pick(EDGES) : random.nextInt(Math.max(1, m.tasks.size()));
  }

  private static int order() {
    return random.nextInt(25) == 0 ? pick(EDGES) : 100 * lang() + random.nextInt(12);
  }

  private static int digits() {
    if (random.nextInt(20) == 0) return pick(EDGES);
    if (random.nextInt(20) == 0) return pick(7, 10, 0, 9, 333) * 1000000 + 333333;
    if (random.nextInt(3) == 0) return pick(33333333, 22344455, 23243556, 24445555, 24354546, 32245555, 31555566, 15444566);
    int digits = 0;
    for (int i = 0; i < 8; i++) digits = digits * 10 + pick(1, 2, 2, 3, 3, 4, 4, 5, 6);
    return digits;
  }

  private static int nt() {
    return random.nextInt(15) == 0 ? pick(EDGES) : 1000 * (1 + random.nextInt(12)) + pick(1, 2, 3, 5, 7, 20, 50, 100, 200);
  }

  private static int phases() {
    return random.nextInt(15) == 0 ? pick(EDGES) : 1 + random.nextInt(14);
  }

  private static int steps() {
    return random.nextInt(15) == 0 ? pick(EDGES) : pick(0, 1, 2, 3, 5, 17, 60, 200, 999);
  }

  private static long value() {
    return random.nextInt(3) == 0 ? random.nextLong() : random.nextInt(4) - 1;
  }

  private static void addProgram() throws ReflectiveOperationException {
    both("clear");
    int most = random.nextInt(10) == 0 || m.langs.isEmpty() ? 12 : m.langs.get(m.langs.size() - 1).bits.size();
    for (int length = pick(0, 1, 2, 3, 3, 4, 5, 6, 8, 11, 12); length > 0; length--) {
      both("add", 1 + random.nextInt(most - 1));
    }
    if (random.nextInt(12) > 0) both("add", 0);
  }

  private static void feedText() throws ReflectiveOperationException {
    StringBuilder text = new StringBuilder(ASKS[random.nextInt(ASKS.length)]);
    String signs = "nflmxab0123456789=<>+-*%&|!()!( q";
    for (int k = Math.max(0, random.nextInt(6) - 3); k > 0; k--) {
      text.insert(random.nextInt(text.length() + 1), signs.charAt(random.nextInt(signs.length())));
    }
    for (int i = 0; i < text.length(); i++) both("feed", 1, text.charAt(i) + 256 * random.nextInt(3));
    both("task", to(30));
  }

  private static void readBits() throws ReflectiveOperationException {
    int shelf = random.nextInt(6);
    int n = random.nextInt(61);
    both("row", shelf, 4, n);
    int ones = 1 + random.nextInt(6);
    for (int i = 0; i < n && i < 20; i++) both("put", shelf, i, random.nextInt(ones) == 0 ? 1L : 0L);
    for (int i = 0; i < 4; i++) {
      both("read", lang(), shelf, i);
      both("order", -1);
    }
    both("read", lang(), to(6), pick(0, pick(EDGES)));
    both("order", -1);
  }

  private static void learn() throws ReflectiveOperationException {
    if (random.nextInt(3) > 0) addProgram();
    int i = to(Math.max(1, m.prog.size() - 2));
    if (random.nextInt(4) > 0) both("learn", lang(), i, i + 1 + random.nextInt(3), pick(1, 2, 3, 4, 5, 6, 6));
    else both("learn", lang(), i, to(12), to(8));
  }

  private static void actAndTrace() throws ReflectiveOperationException {
    both("act", order(), to(4), random.nextBoolean() ? random.nextInt() : random.nextInt(50));
    int bodies = both("count", 4);
    for (int i = -1; i <= bodies; i++) both("trace", i);
  }

  private static void languagesAndPrograms(int which) throws ReflectiveOperationException {
    switch (which) {
      case 0: if (random.nextInt(5) == 0) both("language", digits()); break;
      case 1: both("of", lang(), pick(0, 1, 10 + to(12), 30 + to(12), pick(EDGES))); break;
      case 2: both("part", lang(), 7 + to(6), to(6) - 1); break;
      case 3: addProgram(); break;
      case 4: both("add", to(13)); break;
      case 5: both("order", to(14) - 1); break;
      case 6: both("size", lang()); break;
      case 7: readBits(); break;
      case 8: both("run", lang(), to(random.nextBoolean() ? 25 : 1000), steps()); break;
      case 9: for (int what : new int[] {0, 1, 2, 3, 10, 10 + to(9), pick(EDGES)}) both("ran", what); break;
      default: both("next", lang()); break;
    }
  }

  private static void tasksAndVotes(int which) throws ReflectiveOperationException {
    switch (which) {
      case 0: feedText(); break;
      case 1: both("feed", to(5), random.nextInt()); break;
      case 2: both("passes", lang(), task(), steps()); break;
      case 3: both("search", lang(), task(), phases()); both("order", 0); break;
      case 4: for (int what = -1; what < 6; what++) both("searched", what); break;
      case 5: if (random.nextInt(4) == 0) both("unsay"); both("say", to(pick(4, 20, 1000))); break;
      case 6: both("votes", lang(), nt(), to(4), to(20)); break;
      case 7: both("shortest", lang(), nt(), to(3)); both("order", 0); break;
      case 8: both("census", lang(), nt(), to(pick(20, 1000)), to(7)); both("order", 0); break;
      case 9: if (random.nextInt(6) == 0) both("helped", lang()); break;
      default: both("cheaper", lang(), lang(), task(), phases()); break;
    }
  }

  private static void learningAndShelves(int which) throws ReflectiveOperationException {
    switch (which) {
      case 0: learn(); break;
      case 1: both("price", lang(), lang()); break;
      case 2: both("translated", lang(), lang()); break;
      case 3: actAndTrace(); break;
      case 4: both("keep", to(6), random.nextInt(5) == 0 ? -1 : order()); break;
      case 5: both("row", to(6), to(5), random.nextInt(5) == 0 ? pick(EDGES) : random.nextInt(20)); break;
      case 6: both("put", to(6), to(15), value()); break;
      case 7: both("element", to(6), to(15)); break;
      case 8: { int s = random.nextInt(3); both("shift", s, to(8), random.nextInt(3) == 0 ? to(6) : s, to(8), to(8)); break; }
      case 9: both("taken", to(6), to(7)); break;
      default: both("count", to(6)); break;
    }
  }

  private static void compareAll() throws ReflectiveOperationException {
    for (int i = -1; i < 12; i++) both("order", i);
    for (int i = 0; i < 5; i++) both("count", i);
    for (int l = 0; l < m.langs.size(); l++) for (int o = 0; o < 12; o++) { both("of", l, 10 + o); both("of", l, 30 + o); }
    for (int l = 0; l < m.langs.size(); l++) for (int o = 8; o < 12; o++) for (int i = -1; i < 4; i++) both("part", l, o, i);
    for (int s = 0; s < 6; s++) for (int i = 0; i < 12; i++) both("element", s, i);
    for (int s = 0; s < 6; s++) both("taken", s, 0);
    for (int i = 0; i < 5; i++) both("searched", i);
  }

  public static void main(String[] args) throws ReflectiveOperationException {
    for (Method method : AllPrograms.class.getDeclaredMethods()) OURS.put(method.getName(), method);
    for (Method method : Model.class.getDeclaredMethods()) THEIRS.put(method.getName(), method);
    for (run = 0; run < RUNS && Due.wrong() < 20; run++) {
      random = new Random(run);
      x = new AllPrograms();
      m = new Model();
      for (int k = 0; k < 3; k++) { feedText(); both("row", k, pick(0, 1, 2, 3, 4), 12); }
      while (m.langs.isEmpty()) both("language", digits());
      for (int k = 0; k < CALLS / 4 && Due.wrong() < 20; k++) {
        int which = random.nextInt(11);
        switch (random.nextInt(3)) {
          case 0: languagesAndPrograms(which); break;
          case 1: tasksAndVotes(which); break;
          default: learningAndShelves(which); break;
        }
      }
      compareAll();
    }
    Due.end();
  }
}
