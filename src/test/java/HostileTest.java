import java.lang.management.ManagementFactory;
import java.lang.reflect.InvocationTargetException;
import java.lang.reflect.Method;
import java.util.Arrays;
import java.util.List;

// All promises: no call throws, whatever is asked; what is refused changes nothing; calls make no objects.
public final class HostileTest {
  private static final int[] INTS = {Integer.MIN_VALUE, -2000000000, -101, -100, -14, -2, -1, 0, 1, 2, 4, 5, 6, 7, 8, 9, 11, 12,
    13, 14, 15, 41, 59, 60, 61, 100, 108, 200, 500, 599, 600, 999, 1000, 12200, 33333333, Integer.MAX_VALUE};
  private static final int[] FEW = {Integer.MIN_VALUE, -1, 0, 1, 3, 5, 14, 60, 9100, Integer.MAX_VALUE};

  private static AllPrograms made(int kind) {
    AllPrograms x = new AllPrograms();
    if (kind == 0) return x;
    x.language(22344455);
    Due.clearAndAdd(x, 1, 7, 6, 0);
    x.learn(0, 0, 2, 3);
    Due.task(x, "f=1&n>1|m=7", 3);
    Due.say(x, 0, 1);
    x.row(0, 4, 30);
    x.row(1, 2, 30);
    x.keep(2, 108);
    x.act(108, 3, 5);
    x.run(0, 4, 50);
    x.search(0, 0, 14);
    if (kind == 1) return x;
    for (int i = 0; i < 12; i++) x.language(66666666);
    for (int i = 0; i < 12; i++) Due.task(x, "l=2", i);
    Due.say(x, 3, 3, 3, 3, 3, 3, 3, 3);
    Due.feed(x, "(((((!".repeat(10));
    Due.clearAndAdd(x, 8, 8, 8, 8, 8, 8, 8, 8, 8, 8, 8, 0);
    for (int i = 0; i < 6; i++) x.row(i, i % 5, 60);
    if (kind == 3) Due.clearAndAdd(x, 11, 10, 9);
    return x;
  }

  private static boolean isRefusal(String name, long answer) {
    if (name.equals("act") || name.equals("search") || name.equals("trace") || name.equals("price")) return false;
    if (name.equals("task")) return answer == -1 || answer == -3;
    return answer == -1 || answer == -2 || answer == -3 || answer == -5 || (answer <= -11 && answer >= -14);
  }

  private static void call(AllPrograms x, int kind, Method method, Object[] args, boolean compare) throws ReflectiveOperationException {
    String call = "state " + kind + ": " + method.getName() + Arrays.toString(args);
    List<Long> before = compare ? Seen.of(x) : List.of();
    try {
      long answer = ((Number) method.invoke(x, args)).longValue();
      if (compare && isRefusal(method.getName(), answer)) {
        Due.due(call + ": refused, but all as before: ", Seen.of(x).equals(before) ? 1 : 0, 1);
      }
    } catch (InvocationTargetException thrown) {
      System.out.println(call + " threw " + thrown.getCause());
      Due.due(call + ": throws", 1, 0);
    }
  }

  private static void callAll(int kind, Method method) throws ReflectiveOperationException {
    Class<?>[] types = method.getParameterTypes();
    int[] values = types.length < 3 ? INTS : FEW;
    int all = 1;
    for (int i = 0; i < types.length; i++) all *= values.length;
    AllPrograms x = made(kind);
    for (int which = 0; which < all; which++) {
      Object[] args = new Object[types.length];
      int rest = which;
      for (int i = 0; i < args.length; i++) {
        int value = values[rest % values.length];
        rest /= values.length;
        args[i] = types[i] == long.class ? (Object) (value * 4294967297L) : (Object) value;
      }
      call(x, kind, method, args, which % (all / 300 + 1) == 0);
    }
  }

  /** What the dearest calls make, in bytes; the host's own counter also counts a few of its own. */
  private static void madeByCalls() {
    com.sun.management.ThreadMXBean counter = (com.sun.management.ThreadMXBean) ManagementFactory.getThreadMXBean();
    long self = Thread.currentThread().getId();
    AllPrograms x = made(1);
    for (int round = 0; round < 2; round++) {
      long from = counter.getThreadAllocatedBytes(self);
      x = made(1);
      long made = counter.getThreadAllocatedBytes(self) - from;
      Due.due("round " + round + ": a new object makes less than 300000 bytes, " + made, made < 300000 ? 1 : 0, 1);
      from = counter.getThreadAllocatedBytes(self);
      for (int i = 0; i < 60; i++) {
        x.search(0, 0, 14);
        x.votes(0, 12200, 1, 0);
        x.shortest(0, 12200, 0);
        x.census(0, 12200, 0, 4);
        x.cheaper(0, 1, 0, 14);
        x.next(0);
        x.run(0, 0, 999);
        x.act(108, 3, 1);
      }
      made = counter.getThreadAllocatedBytes(self) - from;
      Due.due("round " + round + ": 480 calls make less than 5000 bytes, " + made, made < 5000 ? 1 : 0, 1);
    }
  }

  public static void main(String[] args) throws ReflectiveOperationException {
    for (Method method : AllPrograms.class.getMethods()) {
      if (method.getDeclaringClass() != AllPrograms.class) continue;
      for (int kind = 0; kind < 4; kind++) callAll(kind, method);
    }
    madeByCalls();
    Due.end();
  }
}
