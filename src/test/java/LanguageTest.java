import java.lang.reflect.Constructor;
import java.lang.reflect.Field;
import java.lang.reflect.Method;
import java.lang.reflect.Modifier;
import java.nio.file.Files;
import java.nio.file.Path;
import java.util.ArrayList;
import java.util.Arrays;
import java.util.List;
import java.util.Set;
import java.util.TreeSet;
import java.util.regex.Matcher;
import java.util.regex.Pattern;

/** The face of the document, and those rules of LANGUAGE.md that can be seen in the class or its text. */
public final class LanguageTest {
  private static final String[] FACE = {"int feed(int,int,int,int,int)", "int law(int,int)", "int rule(int,int)", "boolean way(int,int,int)",
      "int plane(int,int,int,int)", "int flight(int,int,int,int)", "boolean cancel(int)", "int storm(int,int,int)", "boolean clock(int)",
      "int plan()", "int replan()", "int fits()", "int on(int)", "int move(int,int,int)", "int offer(int,int,int,int)",
      "boolean take(int,int)", "int told(int,int)", "long bill(int)", "int look(int,int)", "int count(int)"};
  private static final String[] WORDS = {"throw", "throws", "try", "catch", "synchronized", "assert", "package", "import", "native",
      "protected", "volatile", "transient", "strictfp", "System", "Object", "Exception", "hashCode", "toString"};

  private static int wrong = 0;

  private static void expect(boolean holds, String what) {
    if (!holds) {
      wrong++;
      System.out.println(what);
    }
  }

  private static String told(Method m) {
    List<String> types = new ArrayList<>();
    for (Class<?> type : m.getParameterTypes()) types.add(type.getName());
    return m.getReturnType().getName() + " " + m.getName() + "(" + String.join(",", types) + ")";
  }

  private static void face() {
    Class<?> c = EmptyLegs.class;
    expect(Modifier.isPublic(c.getModifiers()) && Modifier.isFinal(c.getModifiers()), "the class is not public and final");
    Set<String> open = new TreeSet<>();
    Set<String> openNames = new TreeSet<>();
    for (Method m : c.getDeclaredMethods()) {
      if (Modifier.isPublic(m.getModifiers())) {
        open.add(told(m));
        openNames.add(m.getName());
      } else {
        expect(Modifier.isPrivate(m.getModifiers()), m + " is neither public nor private");
      }
    }
    expect(open.equals(new TreeSet<>(Arrays.asList(FACE))), "the face is " + open);
    for (Constructor<?> k : c.getDeclaredConstructors()) expect(Modifier.isPublic(k.getModifiers()) && k.getParameterCount() == 0, "constructor " + k);
    for (Field f : c.getDeclaredFields()) {
      expect(f.getName().equals("NONE") ? Modifier.isPublic(f.getModifiers()) : Modifier.isPrivate(f.getModifiers()), f + " is open");
    }
    for (Class<?> inside : c.getDeclaredClasses()) {
      expect(Modifier.isStatic(inside.getModifiers()), inside + " is not static");
      for (Method m : inside.getDeclaredMethods()) expect(!openNames.contains(m.getName()), m + " bears the name of a public method");
    }
    expect(c.getDeclaredClasses().length + 1 <= 12, "more than twelve classes");
  }

  private static void fields(Class<?> c) {
    int own = 0;
    for (Field f : c.getDeclaredFields()) {
      if (!Modifier.isStatic(f.getModifiers())) own++;
      else expect(Modifier.isFinal(f.getModifiers()) && f.getType().isPrimitive(), f + " is no constant");
    }
    expect(own <= 20, c + " has " + own + " fields");
    for (Method m : c.getDeclaredMethods()) expect(m.getParameterCount() <= 7, m + " takes more than seven");
    for (Class<?> inside : c.getDeclaredClasses()) fields(inside);
  }

  private static String bare(String text) {
    return text.replaceAll("(?s)/\\*.*?\\*/", "").replaceAll("//[^\n]*", "").replaceAll("'(\\\\.|[^'])'", "0").replaceAll("\"[^\"\n]*\"", "0");
  }

  private static void words(String code) {
    for (String word : WORDS) expect(!Pattern.compile("\\b" + word + "\\b").matcher(code).find(), "the word " + word + " stands in the code");
    expect(!code.contains("->") && !code.contains("::"), "a lambda or a method reference");
    expect(!code.contains("@"), "an annotation");
    expect(!Pattern.compile("while\\s*\\(\\s*true|for\\s*\\(\\s*;").matcher(code).find(), "a loop without an end");
    expect(code.chars().allMatch(sign -> sign < 128), "a sign above 127");
  }

  /** Objects are made in constructors alone, so that no run of calls fills the room. */
  private static void lengthsAndMaking(String text) {
    Matcher head = Pattern.compile("(?m)^( +)(?:(?:public|private|static) )*(?:[\\w\\[\\]]+ )?(\\w+)\\([^)]*\\) \\{$").matcher(text);
    int methods = 0;
    while (head.find()) {
      if (Set.of("if", "for", "while", "switch").contains(head.group(2))) continue;
      int end = text.indexOf("\n" + head.group(1) + "}\n", head.end());
      String body = text.substring(head.end(), end);
      methods++;
      expect(body.lines().count() <= 60, head.group(2) + " is long");
      expect(!body.contains("new ") || head.group(2).equals("EmptyLegs"), head.group(2) + " makes an object");
    }
    expect(methods > 80, "only " + methods + " methods were found");
  }

  public static void main(String[] args) throws Exception {
    face();
    fields(EmptyLegs.class);
    String text = bare(Files.readString(Path.of(System.getProperty("source"))));
    words(text);
    lengthsAndMaking(text);
    System.out.println(wrong == 0 ? "the language is kept" : wrong + " rules are broken");
    if (wrong != 0) System.exit(1);
  }
}
