import java.util.ArrayList;
import java.util.Comparator;
import java.util.HashMap;
import java.util.HashSet;
import java.util.List;
import java.util.Map;
import java.util.Set;
import java.util.TreeMap;

// The document once more, written plainly and slowly: lists, texts of bits, the host's own arrays and classes.
public final class Model {
  static final int BAD = -1, NOT = -2, FULL = -3, STATE = -5, VOID = -2000000000;

  static final class Lang {
    final List<Integer> bits = new ArrayList<>();
    final List<List<Integer>> parts = new ArrayList<>();
    final Map<Integer, List<Prog>> programs = new HashMap<>();

    double sum() {
      double sum = 0;
      for (int b : bits) sum += Math.pow(0.5, b);
      return sum;
    }

    Map<Integer, String> codes() {
      List<Integer> sorted = new ArrayList<>();
      for (int o = 0; o < bits.size(); o++) sorted.add(o);
      sorted.sort(Comparator.comparingInt((Integer o) -> bits.get(o)).thenComparingInt(o -> o));
      Map<Integer, String> codes = new HashMap<>();
      String code = null;
      for (int o : sorted) {
        code = code == null ? "" : plusOne(code);
        while (code.length() < bits.get(o)) code += "0";
        codes.put(o, code);
      }
      return codes;
    }

    private static String plusOne(String code) {
      int place = code.lastIndexOf('0');
      if (place < 0) return code; // the sum is 1: nothing comes behind
      return code.substring(0, place) + "1" + "0".repeat(code.length() - place - 1);
    }

    int size(List<Integer> p) {
      if (p.isEmpty() || p.indexOf(0) != p.size() - 1) return STATE;
      int size = 0;
      for (int o : p) {
        if (o >= bits.size()) return STATE;
        size += bits.get(o);
      }
      return size;
    }

    List<Prog> upTo(int n) {
      return programs.computeIfAbsent(n, k -> {
        List<Prog> all = new ArrayList<>();
        grow(new ArrayList<>(), "", n, codes(), all);
        all.sort(Comparator.comparingInt((Prog p) -> p.bits.length()).thenComparingInt(p -> Integer.parseInt(p.bits, 2)));
        return all;
      });
    }

    private void grow(List<Integer> row, String rowBits, int n, Map<Integer, String> codes, List<Prog> all) {
      if (rowBits.length() > n || row.size() > 12) return;
      if (!row.isEmpty() && row.get(row.size() - 1) == 0) {
        all.add(new Prog(new ArrayList<>(row), rowBits));
        return;
      }
      for (int o = 0; o < bits.size(); o++) {
        row.add(o);
        grow(row, rowBits + codes.get(o), n, codes, all);
        row.remove(row.size() - 1);
      }
    }

    List<Integer> written(List<Integer> p) {
      List<Integer> flat = new ArrayList<>();
      for (int o : p) {
        if (o >= 8) flat.addAll(parts.get(o - 8)); else flat.add(o);
      }
      return flat;
    }
  }

  record Prog(List<Integer> orders, String bits) { }

  static final class Sim {
    final List<Integer> flat;
    int a, b = 0, steps = 0, state = 2, place = 0;
    final List<Integer> out = new ArrayList<>();
    final Set<List<Integer>> times = new HashSet<>();

    Sim(Lang lang, List<Integer> program, int input) {
      flat = lang.written(program);
      a = input;
      times.add(List.of(a, b, 0));
    }

    Sim go(int t) {
      while (state == 2 && steps < t) step();
      return this;
    }

    void step() {
      int order = flat.get(place++);
      steps++;
      if (order == 0) { state = 0; return; }
      if (order == 1) a = a == 999 ? 0 : a + 1;
      if (order == 2) a = (a + a) % 1000;
      if (order == 3) {
        if (out.size() == 8) { state = 0; return; }
        out.add(a);
      }
      if (order == 4) { int old = b; b = a; a = old; }
      if (order == 5) a = (a + b) % 1000;
      if (order == 6 && a < 20) {
        place = 0;
        if (!times.add(List.of(a, b, out.size()))) { state = 1; return; }
      }
      if (order == 7 && (a & 1) == 1) place++;
      if (place >= flat.size()) state = 0;
    }
  }

  record Task(String text, int input) { }

  // ---- asks

  /** The first byte with which no text goes on, by an automaton that keeps what is open; -1: none. */
  static int fault(String text) {
    StringBuilder open = new StringBuilder();
    // 'N' an ask is wanted, 'O' an operand is wanted, '0' behind a NAME, '1' .. '3' behind so many digits, ')' behind one
    char mode = 'N';
    boolean right = false;
    for (int i = 0; i < text.length(); i++) {
      char c = text.charAt(i);
      boolean operand = "nflmxab".indexOf(c) >= 0;
      boolean digit = c >= '0' && c <= '9';
      if (mode == 'N' || mode == 'O') {
        if (mode == 'N' && (c == '!' || c == '(')) {
          if (open.length() == 5) return i;
          open.append(c);
          continue;
        }
        if (!operand && !digit) return i;
        if (mode == 'N') right = false;
        mode = operand ? '0' : '1';
        continue;
      }
      if (digit && (mode == '1' || mode == '2')) { mode++; continue; }
      if (mode != ')' && "+-*%".indexOf(c) >= 0) { mode = 'O'; continue; }
      if (mode != ')' && !right && "=<>".indexOf(c) >= 0) { mode = 'O'; right = true; continue; }
      if (mode != ')' && !right) return i;
      while (open.length() > 0 && open.charAt(open.length() - 1) == '!') open.setLength(open.length() - 1);
      if (c == '&' || c == '|') { mode = 'N'; continue; }
      if (c != ')' || open.length() == 0) return i;
      open.setLength(open.length() - 1);
      mode = ')';
    }
    while (open.length() > 0 && open.charAt(open.length() - 1) == '!') open.setLength(open.length() - 1);
    boolean whole = open.length() == 0 && (mode == ')' || (right && mode >= '0' && mode <= '3'));
    return whole ? -1 : text.length();
  }

  private static int lastOutside(String text, String signs) {
    int open = 0;
    for (int i = text.length() - 1; i >= 0; i--) {
      char c = text.charAt(i);
      if (c == ')') open++;
      if (c == '(') open--;
      if (open == 0 && signs.indexOf(c) >= 0) return i;
    }
    return -1;
  }

  static boolean holds(String text, Map<Character, Integer> names) {
    int at = lastOutside(text, "|");
    if (at >= 0) return holds(text.substring(0, at), names) | holds(text.substring(at + 1), names);
    at = lastOutside(text, "&");
    if (at >= 0) return holds(text.substring(0, at), names) & holds(text.substring(at + 1), names);
    if (text.charAt(0) == '!') return !holds(text.substring(1), names);
    if (text.charAt(0) == '(') return holds(text.substring(1, text.length() - 1), names);
    at = lastOutside(text, "=<>");
    int l = value(text.substring(0, at), names);
    int r = value(text.substring(at + 1), names);
    return text.charAt(at) == '=' ? l == r : text.charAt(at) == '<' ? l < r : l > r;
  }

  private static int value(String text, Map<Character, Integer> names) {
    int at = lastOutside(text, "+-");
    if (at < 0) at = lastOutside(text, "*%");
    if (at < 0) return Character.isDigit(text.charAt(0)) ? Integer.parseInt(text) : names.get(text.charAt(0));
    int l = value(text.substring(0, at), names);
    int r = value(text.substring(at + 1), names);
    switch (text.charAt(at)) {
      case '+': return l + r;
      case '-': return l - r;
      case '*': return l * r;
      default: return r == 0 ? 0 : l % r;
    }
  }

  static boolean passed(Task task, Sim sim) {
    if (sim.state != 0 || sim.out.isEmpty()) return false;
    Map<Character, Integer> names = new HashMap<>();
    names.put('n', sim.out.size());
    names.put('f', sim.out.get(0));
    names.put('l', sim.out.get(sim.out.size() - 1));
    names.put('m', sim.out.stream().mapToInt(Integer::intValue).sum());
    names.put('x', task.input());
    names.put('a', sim.a);
    names.put('b', sim.b);
    return holds(task.text(), names);
  }

  // ---- state

  final List<Lang> langs = new ArrayList<>();
  List<Integer> prog = new ArrayList<>();
  Sim ran = null;
  String tape = "";
  final List<Task> tasks = new ArrayList<>();
  int[] searched = null;
  final List<Integer> told = new ArrayList<>();
  final List<Integer> bodies = new ArrayList<>();
  final Object[] shelves = new Object[6];

  // ---- languages, programs

  private Lang lang(int i) {
    return i < 0 || i >= langs.size() ? null : langs.get(i);
  }

  public int language(int digits) {
    if (!Integer.toString(digits).matches("[1-6]{8}")) return BAD;
    Lang made = new Lang();
    for (char c : Integer.toString(digits).toCharArray()) made.bits.add(c - '0');
    if (made.sum() > 1) return STATE;
    if (langs.size() == 6) return FULL;
    langs.add(made);
    return langs.size() - 1;
  }

  public int of(int language, int what) {
    Lang l = lang(language);
    if (l == null) return BAD;
    if (what == 0) return l.bits.size();
    if (what == 1) return (int) (64 * l.sum());
    if (what >= 10 && what < 10 + l.bits.size()) return l.bits.get(what - 10);
    if (what >= 30 && what < 30 + l.bits.size()) return Integer.parseInt(l.codes().get(what - 30), 2);
    return BAD;
  }

  public int part(int language, int order, int i) {
    Lang l = lang(language);
    if (l == null || order < 8 || order >= l.bits.size()) return BAD;
    List<Integer> part = l.parts.get(order - 8);
    if (i == -1) return part.size();
    return i < 0 || i >= part.size() ? BAD : part.get(i);
  }

  public int clear() {
    int had = prog.size();
    prog = new ArrayList<>();
    return had;
  }

  public int add(int order) {
    if (order < 0 || order > 11 || prog.contains(0)) return BAD;
    if (prog.size() == 12) return FULL;
    prog.add(order);
    return prog.size();
  }

  public int order(int i) {
    if (i == -1) return prog.size();
    return i < 0 || i >= prog.size() ? BAD : prog.get(i);
  }

  public int size(int language) {
    return lang(language) == null ? BAD : lang(language).size(prog);
  }

  public int read(int language, int shelf, int i) {
    Lang l = lang(language);
    if (l == null || shelf < 0 || shelf > 5) return BAD;
    if (shelves[shelf] == null) return NOT;
    if (!(shelves[shelf] instanceof boolean[])) return -12;
    boolean[] row = (boolean[]) shelves[shelf];
    Map<String, Integer> byCode = new HashMap<>();
    l.codes().forEach((o, c) -> byCode.put(c, o));
    List<Integer> got = new ArrayList<>();
    String bits = "";
    int place = i;
    try {
      while (got.isEmpty() || got.get(got.size() - 1) != 0) {
        bits += row[place++] ? "1" : "0";
        if (byCode.containsKey(bits)) {
          if (got.size() == 12) return STATE;
          got.add(byCode.get(bits));
          bits = "";
        } else if (bits.length() == 6) {
          return STATE;
        }
      }
    } catch (ArrayIndexOutOfBoundsException noPlace) {
      return NOT;
    }
    prog = got;
    return l.size(prog);
  }

  public int run(int language, int input, int t) {
    Lang l = lang(language);
    if (l == null || input < 0 || input > 999 || t < 0 || t > 999) return BAD;
    if (l.size(prog) == STATE) return STATE;
    ran = new Sim(l, prog, input).go(t);
    return ran.state;
  }

  public int ran(int what) {
    if (ran == null) return BAD;
    switch (what) {
      case 0: return ran.steps;
      case 1: return ran.a;
      case 2: return ran.b;
      case 3: return ran.out.size();
      default: return what >= 10 && what - 10 < ran.out.size() ? ran.out.get(what - 10) : BAD;
    }
  }

  public int next(int language) {
    Lang l = lang(language);
    if (l == null) return BAD;
    if (!prog.isEmpty() && l.size(prog) == STATE) return STATE;
    List<Prog> all = l.upTo(14);
    int at = -1;
    if (!prog.isEmpty()) {
      if (l.size(prog) > 14) return NOT;
      while (!all.get(++at).orders().equals(prog)) { }
    }
    if (at + 1 >= all.size()) return NOT;
    prog = new ArrayList<>(all.get(at + 1).orders());
    return l.size(prog);
  }

  // ---- tasks, searches

  public int feed(int n, int v) {
    if (n < 1 || n > 4) return BAD;
    if (tape.length() + n > 60) return FULL;
    for (int i = 0; i < n; i++) tape += (char) ((v >> (8 * i)) & 255);
    return tape.length();
  }

  public int task(int input) {
    if (input < 0 || input > 999) return BAD;
    if (tasks.size() == 10) return FULL;
    String text = tape;
    tape = "";
    if (fault(text) >= 0) return -100 - fault(text);
    tasks.add(new Task(text, input));
    return tasks.size() - 1;
  }

  public int passes(int language, int task, int t) {
    Lang l = lang(language);
    if (l == null || task < 0 || task >= tasks.size() || t < 0 || t > 999) return BAD;
    if (l.size(prog) == STATE) return STATE;
    return passed(tasks.get(task), new Sim(l, prog, tasks.get(task).input()).go(t)) ? 1 : 0;
  }

  /** PHASE by PHASE, each PROGRAM kept where it stands: what searched() answers, the PHASE, and which PROGRAM. */
  private int[] look(Lang l, Task task, int phases) {
    List<Prog> all = l.upTo(14);
    Sim[] sims = new Sim[all.size()];
    int sum = 0, begun = 0, hangs = 0;
    for (int phase = 1; phase <= phases; phase++) {
      for (int k = 0; k < sims.length; k++) {
        int size = all.get(k).bits().length();
        if (size > phase) continue;
        if (sims[k] == null) { sims[k] = new Sim(l, all.get(k).orders(), task.input()); begun++; }
        while (sims[k].state == 2 && sims[k].steps < (1 << (phase - size))) {
          sims[k].step();
          sum++;
          if (sims[k].state == 1) hangs++;
          if (passed(task, sims[k])) {
            int own = sims[k].steps;
            long best = ((long) own) << size;
            return new int[] {sum, own, (int) Math.ceil((double) sum / best), begun, hangs, phase, k};
          }
        }
      }
    }
    return new int[] {sum, NOT, NOT, begun, hangs, NOT, -1};
  }

  public int search(int language, int task, int phases) {
    Lang l = lang(language);
    if (l == null || task < 0 || task >= tasks.size() || phases < 1 || phases > 14) return BAD;
    searched = look(l, tasks.get(task), phases);
    if (searched[6] >= 0) prog = new ArrayList<>(l.upTo(14).get(searched[6]).orders());
    return searched[5];
  }

  public int searched(int what) {
    return searched == null || what < 0 || what > 4 ? BAD : searched[what];
  }

  // ---- votes, shortest ones, census

  public int say(int v) {
    if (v < 0 || v > 999) return BAD;
    if (told.size() == 8) return FULL;
    told.add(v);
    return told.size();
  }

  public int unsay() {
    int had = told.size();
    told.clear();
    return had;
  }

  private static boolean isNt(int nt) {
    int n = Math.floorDiv(nt, 1000), t = Math.floorMod(nt, 1000);
    return n >= 1 && n <= 12 && t >= 1 && t <= 200;
  }

  private static boolean begins(List<Integer> beginning, List<Integer> all) {
    return beginning.size() <= all.size() && all.subList(0, beginning.size()).equals(beginning);
  }

  public int votes(int language, int nt, int what, int v) {
    Lang l = lang(language);
    if (l == null || !isNt(nt) || what < 0 || what > 3 || (what == 0 && (v < 0 || v > 999))) return BAD;
    TreeMap<Integer, Integer> votes = new TreeMap<>();
    int open = 0;
    for (Prog p : l.upTo(nt / 1000)) {
      Sim sim = new Sim(l, p.orders(), 0).go(nt % 1000);
      int weight = (int) Math.pow(2, nt / 1000 - p.bits().length());
      if (sim.out.size() > told.size() && begins(told, sim.out)) {
        votes.merge(sim.out.get(told.size()), weight, Integer::sum);
      } else if (sim.state == 2 && begins(sim.out, told)) {
        open += weight;
      }
    }
    if (what == 0) return votes.getOrDefault(v, 0);
    if (what == 2) return votes.values().stream().mapToInt(Integer::intValue).sum();
    if (what == 3) return open;
    int best = NOT;
    for (int number : votes.keySet()) {
      if (best == NOT || votes.get(number) > votes.get(best)) best = number;
    }
    return best;
  }

  public int shortest(int language, int nt, int what) {
    Lang l = lang(language);
    if (l == null || !isNt(nt) || what < 0 || what > 2) return BAD;
    List<Prog> just = new ArrayList<>();
    boolean shown = true;
    for (Prog p : l.upTo(nt / 1000)) {
      Sim sim = new Sim(l, p.orders(), 0).go(nt % 1000);
      if (sim.state == 0 && sim.out.equals(told)) just.add(p);
      if (just.isEmpty() && sim.state == 2) shown = false;
    }
    if (what == 2) return just.size();
    if (just.isEmpty()) return NOT;
    if (what == 1) return shown ? 1 : 0;
    prog = new ArrayList<>(just.get(0).orders());
    return just.get(0).bits().length();
  }

  public int census(int language, int nt, int input, int what) {
    Lang l = lang(language);
    if (l == null || !isNt(nt) || input < 0 || input > 999 || what < 0 || what > 6) return BAD;
    int n = nt / 1000;
    int[] states = new int[3];
    int[] shares = new int[3];
    int most = 0;
    Prog which = null;
    for (Prog p : l.upTo(n)) {
      Sim sim = new Sim(l, p.orders(), input).go(nt % 1000);
      states[sim.state]++;
      shares[sim.state] += 1 << (n - p.bits().length());
      if (sim.state == 0 && sim.steps > most) { most = sim.steps; which = p; }
    }
    switch (what) {
      case 0: return l.upTo(n).size();
      case 1: case 2: case 3: return states[what - 1];
      case 4:
        if (which != null) prog = new ArrayList<>(which.orders());
        return most;
      case 5: return shares[0];
      default:
        String least = bits(shares[0], n);
        String highest = bits(shares[0] + shares[2], n);
        int sure = 0;
        while (sure < n && least.charAt(sure) == highest.charAt(sure)) sure++;
        return sure;
    }
  }

  private static String bits(int share, int n) {
    int held = Math.min(share, (1 << n) - 1);
    String text = Integer.toBinaryString(held);
    return "0".repeat(n - text.length()) + text;
  }

  // ---- learning

  private static Lang copy(Lang l) {
    Lang made = new Lang();
    made.bits.addAll(l.bits);
    made.parts.addAll(l.parts);
    return made;
  }

  public int helped(int language) {
    Lang l = lang(language);
    if (l == null) return BAD;
    if (l.size(prog) == STATE) return STATE;
    if (langs.size() == 6) return FULL;
    Lang made = copy(l);
    for (int o = 0; o < made.bits.size(); o++) {
      if (!prog.contains(o)) continue;
      int old = made.bits.get(o);
      made.bits.set(o, old - 1);
      if (made.sum() > 1) made.bits.set(o, old);
    }
    langs.add(made);
    return langs.size() - 1;
  }

  public int learn(int language, int i, int j, int bits) {
    Lang l = lang(language);
    if (l == null || bits < 1 || bits > 6 || l.parts.size() == 4) return BAD;
    if (i < 0 || j >= prog.size() || (long) j - i < 1 || (long) j - i > 3) return BAD;
    List<Integer> part = new ArrayList<>(prog.subList(i, j + 1));
    for (int o : part) if (o < 1 || o > 7) return BAD;
    if (l.size(prog) == STATE) return STATE;
    Lang made = copy(l);
    made.bits.add(bits);
    made.parts.add(part);
    if (made.sum() > 1) return STATE;
    if (langs.size() == 6) return FULL;
    langs.add(made);
    return langs.size() - 1;
  }

  public int cheaper(int language, int other, int task, int phases) {
    if (lang(language) == null || lang(other) == null || task < 0 || task >= tasks.size()) return VOID;
    if (phases < 1 || phases > 14) return VOID;
    int[] one = look(lang(language), tasks.get(task), phases);
    int[] second = look(lang(other), tasks.get(task), phases);
    return one[5] == NOT || second[5] == NOT ? VOID : one[0] - second[0];
  }

  public int price(int language, int other) {
    if (lang(language) == null || lang(other) == null) return VOID;
    int most = -100;
    for (int o = 0; o < 8; o++) most = Math.max(most, lang(other).bits.get(o) - lang(language).bits.get(o));
    return most;
  }

  public int translated(int language, int other) {
    if (lang(language) == null || lang(other) == null) return BAD;
    if (lang(language).size(prog) == STATE) return STATE;
    List<Integer> flat = lang(language).written(prog);
    return flat.size() > 12 ? NOT : lang(other).size(flat);
  }

  // ---- acts: the host's own classes

  interface Steps {
    int n();
    void ran(int body);
    default int steps(int x) { ran(1); return x + n(); }
  }

  interface Tells {
    void ran(int body);
    int costs(int x);
    int goes(int x);
    default int tells(int x) { ran(2); return costs(x) - goes(1); }
  }

  class Order implements Steps, Tells {
    int n, s;
    public int n() { return n; }
    public void ran(int body) { bodies.add(body); }
    public int costs(int x) { ran(10); return steps(x) * s; }
    public int goes(int x) { ran(11); return x ^ n; }
  }

  class Ends extends Order {
    public int goes(int x) { ran(20); return -super.goes(x); }
  }

  class Does extends Order {
    public int steps(int x) { ran(30); return super.steps(x) + 1; }
  }

  class Says extends Does {
    public int costs(int x) { ran(40); return super.costs(x) + steps(2); }
  }

  class Turns extends Does {
    public int tells(int x) { ran(50); return super.tells(x) ^ 6; }
  }

  class Jumps extends Order {
    public int goes(int x) { ran(60); return super.goes(x) * 3; }
  }

  class Part extends Jumps {
    public int steps(int x) { ran(70); return super.steps(x + 1); }
    public int goes(int x) { ran(71); return super.goes(x) - costs(1); }
  }

  private static final Class<?>[] KINDS =
      {Order.class, Ends.class, Does.class, Says.class, Turns.class, Jumps.class, Part.class};

  private Order made(int order) {
    if (order < 0 || lang(order / 100) == null || order % 100 >= lang(order / 100).bits.size()) return null;
    int n = order % 100;
    Order made = n == 0 ? new Ends() : n == 3 ? new Says() : n == 4 ? new Turns() : n < 6 ? new Does()
        : n < 8 ? new Jumps() : new Part();
    made.n = n;
    made.s = lang(order / 100).bits.get(n);
    return made;
  }

  public int act(int order, int act, int x) {
    bodies.clear();
    Order o = made(order);
    if (o == null || act < 0 || act > 3) return 0;
    return act == 0 ? o.steps(x) : act == 1 ? o.costs(x) : act == 2 ? o.goes(x) : o.tells(x);
  }

  public int trace(int i) {
    return i < 0 || i >= bodies.size() || i >= 24 ? BAD : bodies.get(i);
  }

  // ---- shelves: the host's own arrays and refusals

  private static boolean isShelf(int shelf) {
    return shelf >= 0 && shelf < 6;
  }

  public int keep(int shelf, int order) {
    if (!isShelf(shelf) || (order != -1 && made(order) == null)) return BAD;
    shelves[shelf] = order == -1 ? null : made(order);
    return 1;
  }

  public int row(int shelf, int sort, int n) {
    if (!isShelf(shelf) || sort < 0 || sort > 4 || n > 60) return BAD;
    try {
      shelves[shelf] = sort == 0 ? new byte[n] : sort == 1 ? new short[n] : sort == 2 ? new int[n]
          : sort == 3 ? new long[n] : new boolean[n];
    } catch (NegativeArraySizeException below) {
      return -14;
    }
    return 1;
  }

  public int put(int shelf, int i, long v) {
    if (!isShelf(shelf)) return BAD;
    Object held = shelves[shelf];
    if (held == null) return -11;
    try {
      if (held instanceof byte[] bytes) bytes[i] = (byte) v;
      else if (held instanceof short[] shorts) shorts[i] = (short) v;
      else if (held instanceof int[] ints) ints[i] = (int) v;
      else if (held instanceof long[] longs) longs[i] = v;
      else ((boolean[]) held)[i] = v != 0;
    } catch (ClassCastException other) {
      return -12;
    } catch (ArrayIndexOutOfBoundsException none) {
      return -13;
    }
    return 1;
  }

  public long element(int shelf, int i) {
    if (!isShelf(shelf)) return Long.MIN_VALUE;
    Object held = shelves[shelf];
    try {
      if (held instanceof boolean[] booleans) return booleans[i] ? 1 : 0;
      return java.lang.reflect.Array.getLong(held, i);
    } catch (NullPointerException | IllegalArgumentException | ArrayIndexOutOfBoundsException refused) {
      return Long.MIN_VALUE;
    }
  }

  @SuppressWarnings("SuspiciousSystemArraycopy")
  public int shift(int shelf, int i, int other, int j, int n) {
    if (!isShelf(shelf) || !isShelf(other)) return BAD;
    try {
      System.arraycopy(shelves[shelf], i, shelves[other], j, n);
    } catch (NullPointerException none) {
      return -11;
    } catch (ArrayStoreException unlike) {
      return -12;
    } catch (IndexOutOfBoundsException place) {
      return -13;
    }
    return n;
  }

  public int taken(int shelf, int k) {
    if (!isShelf(shelf) || k < 0 || k > 6) return BAD;
    if (shelves[shelf] == null) return -11;
    try {
      Class<?> now = KINDS[k].cast(shelves[shelf]).getClass();
      for (int kind = 0; kind < 7; kind++) if (KINDS[kind] == now) return kind;
      return -12;
    } catch (ClassCastException other) {
      return -12;
    }
  }

  public int count(int what) {
    switch (what) {
      case 0: return langs.size();
      case 1: return tasks.size();
      case 2: return tape.length();
      case 3: return told.size();
      case 4: return bodies.size();
      default: return BAD;
    }
  }
}
