import java.lang.reflect.Method;
import java.lang.reflect.Modifier;
import java.nio.charset.StandardCharsets;
import java.nio.file.Files;
import java.nio.file.Path;
import java.util.HashMap;
import java.util.Map;
import java.util.Set;
import java.util.TreeSet;
import java.util.regex.Matcher;
import java.util.regex.Pattern;

/** README.md (the third argument) names every call, and its example is answered as it says there. */
public final class ReadmeTest {
  private static final Pattern CALL_OF_THE_TABLE = Pattern.compile("(?m)^\\| `(\\w+)\\(([^)`]*)\\)` \\|");
  private static final Pattern EXAMPLE = Pattern.compile("(?s)```java\n(.*?)```");
  private static final Pattern CALL_OF_THE_EXAMPLE =
    Pattern.compile("(?:int (\\w+) = )?reader\\.(\\w+)\\(([^)]*)\\);\\s+// (-?[0-9]+)\\b.*");
  private static final Pattern NO_CALL = Pattern.compile("//.*|StuckHands reader = new StuckHands\\(\\);");

  private static final Due due = new Due();

  public static void main(String[] args) throws Exception {
    String page = Files.readString(Path.of(args[2]), StandardCharsets.UTF_8);
    table(page);
    Matcher example = EXAMPLE.matcher(page);
    due.is("there is an example", example.find(), true);
    example(example.group(1));
    due.end("ReadmeTest");
  }

  private static void table(String page) {
    Set<String> named = new TreeSet<>();
    Matcher call = CALL_OF_THE_TABLE.matcher(page);
    while (call.find()) named.add(call.group(1) + " of " + call.group(2).split(",").length);
    Set<String> open = new TreeSet<>();
    for (Method method : StuckHands.class.getDeclaredMethods()) {
      if (Modifier.isPublic(method.getModifiers())) open.add(method.getName() + " of " + method.getParameterCount());
    }
    due.is("the table " + named + " names the calls " + open, named.equals(open), true);
  }

  /** A line that is neither a call with its answer nor a remark is a fault, so that none goes untried. */
  private static void example(String lines) throws Exception {
    StuckHands reader = new StuckHands();
    Map<String, Integer> names = new HashMap<>();
    for (String line : lines.split("\n")) {
      Matcher call = CALL_OF_THE_EXAMPLE.matcher(line);
      if (NO_CALL.matcher(line).matches()) continue;
      due.is("a call with its answer: " + line, call.matches(), true);
      if (!call.matches()) continue;
      int got = answer(reader, call.group(2), call.group(3).split(", "), names);
      if (call.group(1) != null) names.put(call.group(1), got);
      due.is(line, got, Integer.parseInt(call.group(4)));
    }
  }

  private static int answer(StuckHands reader, String name, String[] words, Map<String, Integer> names) throws Exception {
    Class<?>[] types = new Class<?>[words.length];
    Object[] values = new Object[words.length];
    for (int i = 0; i < words.length; i++) {
      types[i] = int.class;
      values[i] = names.containsKey(words[i]) ? names.get(words[i]) : Integer.decode(words[i]);
    }
    return (Integer) StuckHands.class.getMethod(name, types).invoke(reader, values);
  }
}
