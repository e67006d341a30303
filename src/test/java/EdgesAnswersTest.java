import java.lang.reflect.Field;
import java.lang.reflect.Method;
import java.lang.reflect.Modifier;
import java.util.ArrayList;
import java.util.Arrays;
import java.util.List;
import java.util.regex.Matcher;
import java.util.regex.Pattern;

// Boundary cases of what Terms say of all answers, the constants and the face, and memory of an object's own.
public final class EdgesAnswersTest {
  private static void edge(String where, String sentence, String run) {
    Edge.edge(where, sentence, run);
  }

  /** LANGUAGES, TASKS, THE TAPE, the row and the PROGRAM are full, and each thing that is kept has something. */
  private static final String FILLED = """
      language(22344455) -> 0; program(1, 2, 0); learn(0, 0, 1, 3) -> 1; 4 x language(66666666); count(0) -> 6
      text(n=1); task(0) -> 0; text(1=1); task(0) -> 1; text(1=1); task(0) -> 2; text(1=1); task(0) -> 3
      text(1=1); task(0) -> 4; text(1=1); task(0) -> 5; text(1=1); task(0) -> 6; text(1=1); task(0) -> 7
      text(1=1); task(0) -> 8; text(1=1); task(0) -> 9
      text(f=1); 14 x feed(4, 49); feed(1, 49) -> 60; 8 x say(0)
      row(0, 2, 3) -> 1; put(0, 1, 7) -> 1; row(1, 4, 2) -> 1; put(1, {0 1}, 1) -> 1; keep(2, 108) -> 1; row(3, 3, 1) -> 1
      act(3, 3, 1); search(0, 0, 14) -> 7; run(0, 7, 9) -> 0
      program(8, 8, 8, 8, 8, 8, 8, 8, 8, 8, 8, 8)
      """;

  private static void severalAnswers() {
    edge("Answers, promises 2, 6, 8, 9, 10, 12", "Answers, of several the one named first:", FILLED + """
        language({11111117 33333330}) -> BAD; language(11111111) -> STATE; language(33333333) -> FULL
        add({-1 12}) -> BAD; add({0 8}) -> FULL; size({6 0}) -> BAD STATE; next({6 0}) -> BAD STATE
        read(6, {0 1 4 6}, -1) -> BAD; read(0, 6, -1) -> BAD; read(0, {0 2 3}, -1) -> -12; read(0, {1 4}, -1) -> NOT
        run(6, 0, 9) -> BAD; run(0, 1000, 9) -> BAD; run(0, 0, 1000) -> BAD; run(0, 0, 9) -> STATE
        """);
    edge("Answers, promises 13 to 16, 18, 20 to 22", "Answers, of several the one named first:", FILLED + """
        feed({0 5}, 49) -> BAD; feed({1 4}, 49) -> FULL; task({-1 1000}) -> BAD; task({0 999}) -> FULL
        passes(6, 0, 9) -> BAD; passes(0, 10, 9) -> BAD; passes(0, 0, 1000) -> BAD; passes(0, 0, 9) -> STATE
        search(0, 0, 15) -> BAD; say({-1 1000}) -> BAD; say({0 999}) -> FULL
        votes(0, 5000, 1, 0) -> BAD; votes(6, 5001, 1, 0) -> BAD; votes(2, 5001, 1, 0) -> NOT
        shortest(0, 13001, 0) -> BAD; shortest(0, 5001, {3 0}) -> BAD NOT; census(6, 5001, 0, 0) -> BAD
        """);
    edge("Answers, promises 23 to 27", "Answers, of several the one named first:", FILLED + """
        helped({6 0 1}) -> BAD STATE STATE; learn(6, 0, 1, 3) -> BAD; learn(1, 0, 1, 3) -> BAD    # ORDERS 8
        translated({6 1}, 0) -> BAD STATE; translated(1, 6) -> BAD
        program(1, 2); learn(0, 0, 1, 7) -> BAD; learn(0, 0, 1, 3) -> STATE; learn(0, 0, 1, 1) -> STATE
        program(1, 2, 0); learn(0, 0, 1, 3) -> FULL; learn(0, 0, 1, 1) -> STATE; helped(0) -> FULL
        cheaper(6, 0, 0, 14) -> VOID; cheaper(0, 0, 0, 6) -> VOID; price(6, 0) -> VOID
        """);
    edge("Answers, promises 30 to 35", "Answers, of several the one named first:", FILLED + """
        keep(6, -1) -> BAD; keep(0, 8) -> BAD; row(6, 0, -1) -> BAD; row(0, 5, -1) -> BAD; row(0, 0, {61 -1}) -> BAD -14
        put(6, 9, 1) -> BAD; put({4 2 0}, 9, 1) -> -11 -12 -13; element({6 4 2 0}, 9) -> LEAST_LONG
        shift(6, 9, 4, 9, -1) -> BAD; shift(2, 9, 4, 9, -1) -> -11; shift({2 3}, 9, 0, 9, -1) -> -12; shift(0, 9, 0, 9, 1) -> -13
        taken({6 4 0}, 7) -> BAD; taken({4 0}, 6) -> -11 -12
        """);
  }

  private static void each() {
    edge("Answers, promises 3, 7", "BAD (-1): no such number, or it is not as said;", """
        language(33333333) -> 0; of(1, 0) -> -1; of(0, 2) -> -1; order(0) -> -1; ran(0) -> -1; searched(0) -> -1; trace(0) -> -1
        count({-1 5}) -> -1; language(0) -> -1; part(0, 8, 0) -> -1
        """);
    edge("Answers, promises 9, 12, 16, 20, 21, 27", "NOT (-2): as told;", """
        language(66666666) -> 0; text(n=9); task(0) -> 0; program(7, 0)
        read(0, 0, 0) -> -2; next(0) -> -2; search(0, 0, 14) -> -2; votes(0, 1001, 1, 0) -> -2; shortest(0, 1001, {0 1}) -> -2
        program(1, 2, 3, 4, 0); learn(0, 0, 3, 6) -> 1; program(8, 8, 8, 0); translated(1, 0) -> -2
        """);
    edge("Answers, promises 2, 6, 13, 14, 18, 23, 24", "FULL (-3);", FILLED + """
        language(33333333) -> -3; add(1) -> -3; feed(1, 49) -> -3; task(0) -> -3; say(0) -> -3; program(1, 2, 0); helped(0) -> -3
        learn(0, 0, 1, 3) -> -3; count({0..4}) -> 6 10 60 8 8
        """);
    edge("Answers, promises 2, 8, 9, 10, 12, 15, 23, 24, 27", "STATE (-5): as told;", """
        language(22344455) -> 0; language(11111111) -> -5; size(0) -> -5; run(0, 0, 9) -> -5; helped(0) -> -5
        translated(0, 0) -> -5; text(n=1); task(0) -> 0; passes(0, 0, 9) -> -5; program(1, 2); next(0) -> -5
        learn(0, 0, 1, 3) -> -5; bits(0, 111111); read(0, 0, 0) -> -5
        """);
    edge("Answers, promises 9, 31, 32, 34, 35", "-11 to -14.", """
        language(33333333) -> 0; put(0, 0, 1) -> -11; taken(0, 0) -> -11; shift(0, 0, 0, 0, 0) -> -11
        row(1, 2, 1); read(0, 1, 0) -> -12; taken(1, 0) -> -12; put(1, 1, 1) -> -13; shift(1, 0, 1, 1, 1) -> -13
        row(0, 0, -1) -> -14; put(0, 0, 1) -> -11
        """);
    edge("Answers, promises 25, 26", "VOID is -2000000000.", """
        price(0, 0) -> -2000000000; cheaper(0, 0, 0, 1) -> -2000000000; language(33333333) -> 0; price(0, 1) -> -2000000000
        text(n=9); task(0) -> 0; cheaper(0, 0, 0, 14) -> -2000000000
        """);
    edge("Answers, promises 1 to 36", "What is answered so changes nothing.", FILLED + """
        language(33333333) -> FULL; of(0, 9) -> BAD; part(1, 8, 9) -> BAD; add(1) -> FULL; order(12) -> BAD; size(0) -> STATE
        read(0, 1, 0) -> NOT; run(0, 0, 9) -> STATE; ran(19) -> BAD; next(1) -> STATE; feed(1, 49) -> FULL; task(0) -> FULL
        passes(0, 0, 9) -> STATE; search(0, 0, 0) -> BAD; searched(5) -> BAD; say(9) -> FULL; votes(0, 1, 0, 0) -> BAD
        shortest(0, 5001, 0) -> NOT; census(0, 1, 0, 4) -> BAD; helped(1) -> STATE; learn(1, 0, 1, 3) -> BAD
        cheaper(0, 0, 0, 6) -> VOID; price(0, 6) -> VOID; translated(1, 0) -> STATE; trace(24) -> BAD; keep(2, 8) -> BAD
        row(0, 2, -1) -> -14; put(0, 3, 1) -> -13; element(0, 3) -> LEAST_LONG; shift(3, 0, 0, 0, 1) -> -12; taken(2, 1) -> -12
        count(5) -> BAD; looked(8, 8, 8, 8, 8, 8, 8, 8, 8, 8, 8, 8); ran({0 1}) -> 2 7; searched(1) -> 2
        element(0, {0 1 2}) -> 0 7 0; count({0..4}) -> 6 10 60 8 8
        """);
  }

  private static void fill(AllPrograms x, int digits, int order, int told) {
    x.language(digits);
    Due.clearAndAdd(x, 1, order, 3, 0);
    x.learn(0, 0, 1, 6);
    Due.task(x, "n=1", told);
    Due.feed(x, "f=");
    Due.say(x, told);
    x.run(0, told, 9);
    x.search(0, 0, 14);
    x.act(order, 3, told);
    for (int shelf = 0; shelf < 6; shelf++) {
      x.row(shelf, 3, 60);
      for (int i = 0; i < 4; i++) x.put(shelf, i, told + shelf + i);
    }
  }

  /** Two objects at once: neither sees what the other one was told. */
  private static void ownMemory() {
    edge("Answers, promises 1 to 36", "All memory is the class's own.", "count({0..4}) -> 0");
    String of = "Answers, \"All memory is the class's own.\": ";
    List<Long> none = Seen.of(new AllPrograms());
    AllPrograms x = new AllPrograms();
    AllPrograms y = new AllPrograms();
    fill(x, 22344455, 2, 1);
    Due.due(of + "another object is as new", Seen.of(y).equals(none) ? 1 : 0, 1);
    List<Long> filled = Seen.of(x);
    fill(y, 44444444, 5, 8);
    Due.due(of + "the first one is as before", Seen.of(x).equals(filled) ? 1 : 0, 1);
    Due.due(of + "the other one has its own", Seen.of(y).equals(filled) ? 1 : 0, 0);
    Due.due(of + "a third one is as new", Seen.of(new AllPrograms()).equals(none) ? 1 : 0, 1);
    AllPrograms z = new AllPrograms();
    fill(z, 22344455, 2, 1);
    Due.due(of + "the same calls have the same answers", Seen.of(z).equals(filled) ? 1 : 0, 1);
  }

  private static void constants() throws IllegalAccessException {
    String face = new Document().section("The public face");
    Field[] constants = AllPrograms.class.getFields();
    for (Field field : constants) {
      Matcher said = Pattern.compile("\\b" + field.getName() + " = (-?\\d+)").matcher(face);
      boolean found = said.find();
      Due.due("The public face: the document has " + field, found ? 1 : 0, 1);
      if (found) Due.due("The public face: " + field, field.getInt(null), Integer.parseInt(said.group(1)));
      Due.due("The public face: " + field + " is static, final and an int",
          Modifier.isStatic(field.getModifiers()) && Modifier.isFinal(field.getModifiers()) && field.getType() == int.class ? 1 : 0, 1);
    }
    Due.due("The public face: how many constants", constants.length, face.split("=").length - 1);
  }

  /** The document's lines, without the names of what is told. */
  private static void methods() {
    String face = new Document().section("The public face");
    List<String> said = new ArrayList<>();
    Matcher line = Pattern.compile("public ((?:int|long) \\w+\\([^)]*\\));").matcher(face);
    while (line.find()) said.add(line.group(1).replaceAll("(int|long) \\w+(?=[,)])", "$1"));
    List<String> built = new ArrayList<>();
    for (Method method : AllPrograms.class.getMethods()) {
      if (method.getDeclaringClass() != AllPrograms.class) continue;
      String types = Arrays.toString(method.getParameterTypes()).replace("[", "(").replace("]", ")");
      built.add(method.getReturnType() + " " + method.getName() + types);
    }
    said.sort(null);
    built.sort(null);
    Due.due("The public face: methods that the document has", said.size(), 35);
    Due.due("The public face: " + said + " but " + built, said.equals(built) ? 1 : 0, 1);
    Due.due("The public face: public and final", AllPrograms.class.getModifiers(), Modifier.PUBLIC | Modifier.FINAL);
    Due.due("The public face: constructors", AllPrograms.class.getConstructors().length, 1);
    Due.due("The public face: AllPrograms()", AllPrograms.class.getConstructors()[0].getParameterCount(), 0);
  }

  public static void main(String[] args) throws IllegalAccessException {
    severalAnswers();
    each();
    ownMemory();
    constants();
    methods();
    Edge.end("Answers");
  }
}
