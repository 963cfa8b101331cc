import java.lang.reflect.Constructor;
import java.lang.reflect.Field;
import java.lang.reflect.Method;
import java.lang.reflect.Modifier;
import java.nio.charset.StandardCharsets;
import java.nio.file.Files;
import java.nio.file.Path;
import java.util.Arrays;
import java.util.Set;
import java.util.TreeSet;
import java.util.regex.Matcher;
import java.util.regex.Pattern;

/** The public face, and those rules of LANGUAGE.md that can be seen in the source (the first argument) or by reflection. */
public final class LanguageTest {
  private static final String[] FACE = {"feed(int,int,int,int,int):int", "picture(int):int", "torn(int):int",
    "look(int,int,int):int", "holder(int,int):int", "rings(int):int", "ring(int,int,int):int", "foot(int,int):int",
    "through(int,int):int", "weight(int,int):int", "guilty(int):int", "stuck(int):int", "broken(int):int",
    "meter(int,int):boolean", "work(int,int,int,int):int", "distance(int,int,int):int", "heaps(int,int):int",
    "heap(int,int,int):int", "order(int):int", "count(int,int):int"};
  private static final String[] BANNED = {"\\bthrow\\b", "\\bthrows\\b", "\\btry\\b", "\\bcatch\\b", "\\bsynchronized\\b",
    "\\bassert\\b", "\\bimport\\b", "\\bpackage\\b", "->", "::", "\\bprotected\\b", "\\bstatic \\{", "\\bequals\\b",
    "\\bhashCode\\b", "\\btoString\\b", "Exact\\b", "\\bSystem\\.(?!arraycopy)", "\\bvar\\b"};

  private static final Due due = new Due();

  public static void main(String[] args) throws Exception {
    face();
    fields(StuckHands.class);
    for (Class<?> each : StuckHands.class.getDeclaredClasses()) nested(each);
    due.is("classes at most twelve", StuckHands.class.getDeclaredClasses().length < 12, true);
    if (args.length > 0) source(Files.readString(Path.of(args[0]), StandardCharsets.UTF_8));
    due.end("LanguageTest");
  }

  private static void face() {
    Set<String> open = new TreeSet<>();
    Set<String> openNames = new TreeSet<>();
    Set<String> closedNames = new TreeSet<>();
    for (Method method : StuckHands.class.getDeclaredMethods()) {
      if (Modifier.isPrivate(method.getModifiers())) {
        closedNames.add(method.getName());
        continue;
      }
      due.is(method + " is public", Modifier.isPublic(method.getModifiers()), true);
      StringBuilder form = new StringBuilder(method.getName()).append("(");
      for (Class<?> type : method.getParameterTypes()) form.append(form.charAt(form.length() - 1) == '(' ? "" : ",").append(type);
      open.add(form.append("):").append(method.getReturnType()).toString());
      openNames.add(method.getName());
    }
    due.is("the face is the document's: " + open, open.equals(new TreeSet<>(Arrays.asList(FACE))), true);
    closedNames.retainAll(openNames);
    due.is("private methods with public names: " + closedNames, closedNames.size(), 0);
    Constructor<?>[] made = StuckHands.class.getDeclaredConstructors();
    due.is("one constructor", made.length, 1);
    due.is("it is public", Modifier.isPublic(made[0].getModifiers()) && made[0].getParameterCount() == 0, true);
    due.is("the class is public and final", StuckHands.class.getModifiers(), Modifier.PUBLIC | Modifier.FINAL);
  }

  private static void fields(Class<?> owner) {
    int own = 0;
    for (Field field : owner.getDeclaredFields()) {
      boolean isStatic = Modifier.isStatic(field.getModifiers());
      if (!isStatic) own++;
      due.is(field + " is final if static", !isStatic || Modifier.isFinal(field.getModifiers()), true);
      boolean mayBeOpen = field.getName().equals("NONE") && Modifier.isPublic(field.getModifiers()) && isStatic;
      due.is(field + " is closed", Modifier.isPrivate(field.getModifiers()) || mayBeOpen, true);
    }
    due.is("fields of " + owner, own <= 20, true);
  }

  private static void nested(Class<?> each) {
    due.is(each + " is static", Modifier.isStatic(each.getModifiers()), true);
    due.is(each + " is closed", Modifier.isPublic(each.getModifiers()), false);
    fields(each);
    for (Method method : each.getDeclaredMethods()) due.is(method + " has few parameters", method.getParameterCount() <= 7, true);
  }

  private static void source(String text) {
    String code = text.replaceAll("(?s)/\\*.*?\\*/", "").replaceAll("//[^\n]*", "");
    for (String banned : BANNED) {
      Matcher found = Pattern.compile(banned).matcher(code);
      due.is("the source has " + banned, found.find(), false);
    }
    due.is("the source is plain ASCII", text.chars().allMatch(c -> c < 128), true);
  }
}
