import java.lang.reflect.Method;
import java.lang.reflect.Modifier;
import java.nio.file.Files;
import java.nio.file.Path;
import java.util.HashMap;
import java.util.Map;
import java.util.Set;
import java.util.TreeSet;
import java.util.regex.Matcher;
import java.util.regex.Pattern;

/** Makes the calls of README.md's example: each answers what stands behind it, and all of the face is shown. */
public final class ReadmeTest {
  private static final Pattern CALL = Pattern.compile("(?:int (\\w+) = )?desk\\.(\\w+)\\(([^)]*)\\);\\s*// (-?\\d+|true|false)\\b.*");

  private static final Map<String, Method> face = new HashMap<>();
  private static final Map<String, Integer> named = new HashMap<>();
  private static int asked = 0;
  private static int wrong = 0;

  private static void fault(String line, String what) {
    wrong++;
    System.out.println("'" + line + "': " + what);
  }

  private static String example(String readme) {
    int begin = readme.indexOf("```java\n");
    int end = begin < 0 ? -1 : readme.indexOf("\n```", begin + 8);
    return end < 0 ? "" : readme.substring(begin + 8, end);
  }

  private static Object[] values(String inside) {
    String[] words = inside.isEmpty() ? new String[0] : inside.split(", ");
    Object[] values = new Object[words.length];
    for (int i = 0; i < words.length; i++) {
      Integer kept = named.get(words[i]);
      values[i] = kept != null ? kept : Integer.decode(words[i]);
    }
    return values;
  }

  private static void call(EmptyLegs desk, String line) throws Exception {
    Matcher m = CALL.matcher(line);
    if (!m.matches() || !face.containsKey(m.group(2))) {
      fault(line, "is no call with an answer behind it");
      return;
    }
    asked++;
    Object got = face.get(m.group(2)).invoke(desk, values(m.group(3)));
    if (!String.valueOf(got).equals(m.group(4))) fault(line, "answered " + got);
    if (m.group(1) != null) named.put(m.group(1), (Integer) got);
  }

  public static void main(String[] args) throws Exception {
    for (Method m : EmptyLegs.class.getDeclaredMethods()) {
      if (Modifier.isPublic(m.getModifiers())) face.put(m.getName(), m);
    }
    EmptyLegs desk = null;
    String text = example(Files.readString(Path.of(System.getProperty("readme"))));
    Set<String> left = new TreeSet<>(face.keySet());
    for (String line : text.split("\n")) {
      if (line.isBlank() || line.startsWith("//")) continue;
      if (line.equals("EmptyLegs desk = new EmptyLegs();")) {
        desk = new EmptyLegs();
      } else if (desk == null) {
        fault(line, "stands ahead of the desk");
      } else {
        call(desk, line);
        left.removeIf(name -> line.contains("desk." + name + "("));
      }
    }
    if (!left.isEmpty()) fault("README.md", "does not show " + left);
    System.out.println(asked + " calls of README.md, " + wrong + " faults");
    if (wrong != 0) System.exit(1);
  }
}
