import java.io.IOException;
import java.nio.file.Files;
import java.nio.file.Path;
import java.util.BitSet;
import java.util.LinkedHashMap;
import java.util.Map;

// The sections of ../shared/DOC.md, and which of their words a test has quoted.
public final class Document {
  private static final Path FILE = Path.of("../shared/DOC.md");
  private static final String ANSWERS = "Answers, of several";

  private final Map<String, String> sections = new LinkedHashMap<>();
  private final Map<String, BitSet> quoted = new LinkedHashMap<>();

  public Document() {
    String section = "What it is";
    for (String line : lines()) {
      if (line.startsWith("## ")) section = line.substring(3).replaceAll("^(Promise \\d+):.*", "$1");
      if (line.startsWith("======== ")) section = "Terms " + line.charAt(9);
      if (line.startsWith(ANSWERS)) section = "Answers";
      if (line.startsWith("Ahead of the calls")) section = "Comments";
      if (line.startsWith("#") || line.startsWith("```")) continue;
      String text = line.replaceAll("^======== \\d", "").replaceAll("^`[^`]*`: ", "");
      sections.merge(section, text, (a, b) -> a + " " + b);
    }
    sections.replaceAll((name, text) -> plain(text));
    for (String name : sections.keySet()) quoted.put(name, new BitSet());
  }

  private static java.util.List<String> lines() {
    try {
      return Files.readAllLines(FILE);
    } catch (IOException missing) {
      throw new IllegalStateException(FILE + " cannot be read", missing);
    }
  }

  private static String plain(String text) {
    return text.replaceAll("\\s+", " ").trim();
  }

  public String section(String name) {
    return sections.getOrDefault(name, "");
  }

  /** Marks the sentence as quoted; false where the section does not have it. */
  public boolean quote(String section, String sentence) {
    String text = section(section);
    String wanted = plain(sentence);
    int from = text.indexOf(wanted);
    boolean found = from >= 0 && !wanted.isEmpty();
    while (found && from >= 0) {
      quoted.get(section).set(from, from + wanted.length());
      from = text.indexOf(wanted, from + 1);
    }
    return found;
  }

  /** The words of a section that no test has quoted. */
  public String unquoted(String section) {
    String text = section(section);
    if (text.isEmpty()) return "there is no such section";
    StringBuilder left = new StringBuilder();
    for (int i = 0; i < text.length(); i++) left.append(quoted.get(section).get(i) ? ' ' : text.charAt(i));
    String words = plain(left.toString());
    return words.matches("[\\W_]*") ? "" : words;
  }
}
