import java.io.IOException;
import java.nio.charset.StandardCharsets;
import java.nio.file.Files;
import java.nio.file.Path;
import java.util.ArrayList;
import java.util.HashMap;
import java.util.LinkedHashMap;
import java.util.List;
import java.util.Map;
import java.util.function.Consumer;

/** Runs a test for each quote of the document, and looks whether the quotes are all that the document says. */
final class Sentences {
  private final Due due = new Due();
  private final Map<String, List<String>> quotes = new LinkedHashMap<>();
  private String section = "";

  /** The section of the document that the quotes which follow stand in. */
  void section(String title) {
    section = title;
    quotes.put(title, new ArrayList<>());
  }

  /** A quote without a test of its own, or with one that asks nothing, is a fault of the tests. */
  void holds(String quote, Consumer<Due> test) {
    due.is(section + ", '" + quote + "' is new", quotes.get(section).contains(quote), false);
    quotes.get(section).add(quote);
    int before = due.about(section + ", '" + quote + "': ");
    test.accept(due);
    due.is("calls asked", due.asked() > before, true);
    due.about("");
  }

  /** The document's text, if its path is given, must be the quotes and the words between them that promise nothing. */
  void compareWith(Path document, String... unpromising) throws IOException {
    Map<String, String> sections = sectionsOf(Files.readString(document, StandardCharsets.UTF_8));
    for (Map.Entry<String, List<String>> each : quotes.entrySet()) {
      String text = sections.getOrDefault(each.getKey(), "");
      boolean[] quoted = new boolean[text.length()];
      for (String quote : each.getValue()) due.is(each.getKey() + " says '" + quote + "'", mark(text, quote, quoted), true);
      for (String words : unpromising) mark(text, words, quoted);
      String rest = unmarked(text, quoted);
      due.is(each.getKey() + " leaves without a test '" + rest + "'", rest.length(), 0);
    }
    for (String title : sections.keySet()) {
      due.is(title + " has tests", !title.startsWith("Promise") || quotes.containsKey(title), true);
    }
  }

  void end(String name) {
    due.end(name);
  }

  private static Map<String, String> sectionsOf(String document) {
    Map<String, String> sections = new HashMap<>();
    for (String part : document.split("(?m)^## ")) {
      int end = part.indexOf('\n');
      if (end > 0) sections.put(part.substring(0, end), part.substring(end).replaceAll("\\s+", " "));
    }
    return sections;
  }

  private static boolean mark(String text, String quote, boolean[] quoted) {
    int at = text.indexOf(quote);
    boolean found = at >= 0;
    while (at >= 0) {
      for (int i = at; i < at + quote.length(); i++) quoted[i] = true;
      at = text.indexOf(quote, at + 1);
    }
    return found;
  }

  private static String unmarked(String text, boolean[] quoted) {
    StringBuilder rest = new StringBuilder();
    for (int i = 0; i < text.length(); i++) if (!quoted[i]) rest.append(text.charAt(i));
    return rest.toString().replaceAll("`[^`]*\\([^`]*\\)`", "").replaceAll("[^A-Za-z0-9]+", " ").trim();
  }
}
