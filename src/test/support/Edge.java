import java.lang.reflect.InvocationTargetException;
import java.lang.reflect.Method;
import java.util.ArrayList;
import java.util.Arrays;
import java.util.HashMap;
import java.util.List;
import java.util.Map;

/**
 * A boundary case: the promise and the sentence that ask it, and a run of calls on a new object, each with what is due.
 *
 * A line of a run has statements, parted by "; ", and "#" begins a comment. A statement is a call, and behind " -> " its
 * answers: {..} stands for several values, each of which is called, and answers are then one for all or one for each.
 * "7 x add(1)" is called 7 times. Beside the calls of the class there are
 *   program(1, 2, 0)   clear(), and add() of each
 *   looked(1, 2, 0)    the PROGRAM that is looked at is due to be this
 *   text(f=1)          feed() of each byte
 *   told(1, 2)         unsay(), and say() of each
 *   bits(0, 0101)      row() of booleans on a SHELF, and put() of each
 *
 * Each call that is due to be refused is also due to change nothing.
 */
public final class Edge {
  private static final int MOST_CALLS = 512, SHOWING = 250;
  private static final Document DOCUMENT = new Document();
  private static final Map<String, Method> METHODS = new HashMap<>();
  private static final Map<String, Long> NAMES = Map.of("BAD", -1L, "NOT", -2L, "FULL", -3L, "STATE", -5L,
      "VOID", -2000000000L, "LEAST", (long) Integer.MIN_VALUE, "MOST", (long) Integer.MAX_VALUE,
      "LEAST_LONG", Long.MIN_VALUE, "MOST_LONG", Long.MAX_VALUE);

  static {
    for (Method method : AllPrograms.class.getDeclaredMethods()) METHODS.put(method.getName(), method);
  }

  private record Call(String name, long[] args) {
    public String toString() {
      return name + Arrays.toString(args).replace('[', '(').replace(']', ')');
    }
  }

  private final String about;
  private final List<Call> made = new ArrayList<>();
  private final AllPrograms x = new AllPrograms();

  private Edge(String about) {
    this.about = about;
  }

  /** Where: "Promise 2", or "Terms 1, promise 2" for a sentence of the Terms, asked by the calls of promise 2. */
  public static void edge(String where, String sentence, String run) {
    String about = where + ", \"" + sentence + "\"";
    if (!DOCUMENT.quote(where.replaceAll(",.*", ""), sentence)) Due.due(about + ": the document says it", 0, 1);
    Edge edge = new Edge(about);
    for (String line : run.split("\n")) {
      for (String statement : line.replaceAll("#.*", "").split(";(?= |$)")) {
        if (!statement.isBlank()) edge.take(statement.trim());
      }
    }
    if (edge.made.size() + SHOWING > MOST_CALLS) Due.due(about + ": too many calls", edge.made.size(), 0);
  }

  /** All words of these sections are quoted by a case. */
  public static void end(String... sections) {
    for (String section : sections) {
      String words = DOCUMENT.unquoted(section);
      if (!words.isEmpty()) Due.due(section + ": no case quotes \"" + words + "\"", 0, 1);
    }
    Due.end();
  }

  private void take(String statement) {
    String[] halves = statement.split(" -> ", 2);
    String call = halves[0].trim();
    long[] due = halves.length < 2 ? new long[0] : values(halves[1].trim());
    int times = 1;
    if (call.matches("\\d+ x .*")) {
      times = Integer.parseInt(call.substring(0, call.indexOf(' ')));
      call = call.substring(call.indexOf('x') + 2);
    }
    String name = call.substring(0, call.indexOf('('));
    String inside = call.substring(call.indexOf('(') + 1, call.lastIndexOf(')'));
    for (int k = 0; k < times; k++) takeOne(name, inside, due);
  }

  private void takeOne(String name, String inside, long[] due) {
    switch (name) {
      case "text":
        for (char sign : inside.toCharArray()) call("feed", new long[] {1, sign});
        break;
      case "program": callEach("clear", "add", listed(inside)); break;
      case "told": callEach("unsay", "say", listed(inside)); break;
      case "looked": dueLooked(listed(inside)); break;
      case "bits": putBits(inside); break;
      default: callAll(name, inside, due); break;
    }
  }

  private static long[] listed(String inside) {
    return inside.isBlank() ? new long[0] : values(inside.replace(',', ' '));
  }

  private void callEach(String first, String each, long[] some) {
    call(first, new long[0]);
    for (long one : some) call(each, new long[] {one});
  }

  private void dueLooked(long[] orders) {
    dueCall(new Call("order", new long[] {-1}), orders.length);
    for (int i = 0; i < orders.length; i++) dueCall(new Call("order", new long[] {i}), orders[i]);
  }

  private void putBits(String inside) {
    String[] parts = inside.split(",");
    long shelf = value(parts[0].trim());
    String bits = parts.length < 2 ? "" : parts[1].trim();
    call("row", new long[] {shelf, 4, bits.length()});
    for (int i = 0; i < bits.length(); i++) {
      if (bits.charAt(i) == '1') call("put", new long[] {shelf, i, 1});
    }
  }

  private void callAll(String name, String inside, long[] due) {
    List<long[]> all = new ArrayList<>();
    all.add(new long[0]);
    for (String part : inside.isBlank() ? new String[0] : inside.split(",")) {
      String some = part.trim();
      long[] values = values(some.startsWith("{") ? some.substring(1, some.length() - 1) : some);
      List<long[]> longer = new ArrayList<>();
      for (long[] ahead : all) {
        for (long v : values) {
          long[] args = Arrays.copyOf(ahead, ahead.length + 1);
          args[ahead.length] = v;
          longer.add(args);
        }
      }
      all = longer;
    }
    if (due.length > 1 && due.length != all.size()) Due.due(about + ": " + name + ": answers for each call", due.length, all.size());
    for (int k = 0; k < all.size(); k++) {
      Call call = new Call(name, all.get(k));
      if (due.length == 0) call(name, all.get(k)); else dueCall(call, due[due.length == 1 ? 0 : Math.min(k, due.length - 1)]);
    }
  }

  private static long[] values(String some) {
    List<Long> all = new ArrayList<>();
    for (String token : some.trim().split("\\s+")) {
      if (token.contains("..")) {
        long to = value(token.substring(token.indexOf("..") + 2));
        for (long v = value(token.substring(0, token.indexOf(".."))); v <= to; v++) all.add(v);
      } else {
        all.add(value(token));
      }
    }
    return all.stream().mapToLong(Long::longValue).toArray();
  }

  private static long value(String token) {
    return NAMES.containsKey(token) ? NAMES.get(token) : Long.parseLong(token);
  }

  private void dueCall(Call call, long due) {
    boolean refused = isRefused(call.name, due);
    if (refused) dueNoChange(call, due);
    Due.due(about + ": " + call, call(call.name, call.args), due);
  }

  private long call(String name, long[] args) {
    Call call = new Call(name, args);
    made.add(call);
    return answer(x, call);
  }

  private static long answer(AllPrograms on, Call call) {
    Method method = METHODS.get(call.name);
    Class<?>[] types = method.getParameterTypes();
    Object[] args = new Object[call.args.length];
    for (int i = 0; i < args.length; i++) {
      args[i] = i < types.length && types[i] == long.class ? (Object) call.args[i] : (Object) Math.toIntExact(call.args[i]);
    }
    try {
      return ((Number) method.invoke(on, args)).longValue();
    } catch (InvocationTargetException | IllegalAccessException thrown) {
      throw new IllegalStateException(call + " threw", thrown);
    }
  }

  /** The answers beside which the document tells a change, or which are no refusals, are left out. */
  private static boolean isRefused(String name, long due) {
    if (name.equals("act") || (name.equals("search") && due == -2) || (name.equals("task") && due <= -100)) return false;
    return due < 0;
  }

  private void dueNoChange(Call refused, long due) {
    AllPrograms without = replayed();
    AllPrograms with = replayed();
    Due.due(about + ": " + refused + " on the same state", answer(with, refused), due);
    boolean same = Seen.of(with).equals(Seen.of(without)) && with.task(0) == without.task(0);
    Due.due(about + ": " + refused + " is refused, so nothing changes", same ? 1 : 0, 1);
  }

  private AllPrograms replayed() {
    AllPrograms on = new AllPrograms();
    for (Call call : made) answer(on, call);
    return on;
  }
}
