// Counts and prints answers that are not as due.
public final class Due {
  private static int wrong = 0;
  private static int asked = 0;

  private Due() { }

  public static void due(String call, long got, long want) {
    asked++;
    if (got != want) {
      wrong++;
      if (wrong <= 100) {
        System.out.println(call + " answered " + got + ", due is " + want);
      }
    }
  }

  public static int wrong() {
    return wrong;
  }

  /** The last call of a test's main. */
  public static void end() {
    System.out.println(wrong == 0 ? asked + " answers are as due" : wrong + " answers are not as due");
    if (wrong != 0) {
      System.exit(1);
    }
  }

  public static void clearAndAdd(AllPrograms x, int... orders) {
    x.clear();
    for (int order : orders) {
      x.add(order);
    }
  }

  /** What is looked at, as digits of base 16 behind a 1. */
  public static long looked(AllPrograms x) {
    long all = 1;
    for (int i = 0; i < x.order(-1); i++) {
      all = all * 16 + x.order(i);
    }
    return all;
  }

  public static void feed(AllPrograms x, String text) {
    for (int i = 0; i < text.length(); i++) {
      x.feed(1, text.charAt(i));
    }
  }

  public static int task(AllPrograms x, String text, int input) {
    feed(x, text);
    return x.task(input);
  }

  public static void say(AllPrograms x, int... numbers) {
    x.unsay();
    for (int number : numbers) {
      x.say(number);
    }
  }

  public static void bits(AllPrograms x, int shelf, String bits) {
    x.row(shelf, 4, bits.length());
    for (int i = 0; i < bits.length(); i++) {
      x.put(shelf, i, bits.charAt(i) - '0');
    }
  }
}
