import java.io.IOException;
import java.lang.reflect.Constructor;
import java.lang.reflect.Field;
import java.lang.reflect.Method;
import java.lang.reflect.Modifier;
import java.nio.file.Files;
import java.nio.file.Path;
import java.util.ArrayList;
import java.util.List;
import java.util.Set;
import java.util.TreeSet;
import java.util.regex.Matcher;
import java.util.regex.Pattern;

/** The face as the document gives it, and what of LANGUAGE.md can be seen in the source's text. */
public final class SourceTest {
  private static int wrong = 0;

  private static void must(boolean is, String what) {
    if (!is) {
      wrong++;
      System.out.println("not so: " + what);
    }
  }

  public static void main(String[] args) throws IOException {
    face();
    String source = Files.readString(Path.of("src/main/java/SpiceSwaps.java"));
    words(bare(source));
    methods(source);
    System.out.println("SourceTest: " + wrong + " rules broken");
    if (wrong != 0) System.exit(1);
  }

  private static String types(Class<?>[] of) {
    List<String> names = new ArrayList<>();
    for (Class<?> c : of) names.add(c.getSimpleName());
    return String.join(", ", names);
  }

  private static void face() throws IOException {
    Set<String> due = new TreeSet<>();
    String doc = Files.readString(Path.of("../shared/DOC.md"));
    Matcher m = Pattern.compile("(?m)^    public (int|boolean) (\\w+)\\(([^)]*)\\);").matcher(doc);
    while (m.find()) due.add(m.group(1) + " " + m.group(2) + "(" + m.group(3).replaceAll(" \\w+(?=,|$)", "") + ")");
    Set<String> got = new TreeSet<>();
    Set<String> hidden = new TreeSet<>();
    for (Method x : SpiceSwaps.class.getDeclaredMethods()) {
      String name = x.getReturnType().getSimpleName() + " " + x.getName() + "(" + types(x.getParameterTypes()) + ")";
      if (Modifier.isPublic(x.getModifiers())) got.add(name);
      else {
        must(Modifier.isPrivate(x.getModifiers()), "private: " + name);
        hidden.add(x.getName());
      }
    }
    must(due.size() == 45, "the document's face has 45 methods, not " + due.size());
    must(due.equals(got), "the face is " + due + ", it is " + got);
    for (String name : got) must(!hidden.contains(name.replaceAll("\\w+ (\\w+)\\(.*", "$1")), "no private twin: " + name);
    for (Class<?> c : SpiceSwaps.class.getDeclaredClasses()) {
      must(Modifier.isStatic(c.getModifiers()), "static: " + c);
      must(c.getDeclaredFields().length <= 20 + constants(c), "some twenty fields: " + c);
      for (Method x : c.getDeclaredMethods()) {
        for (String name : got) must(!name.contains(" " + x.getName() + "("), "no twin: " + x);
      }
    }
    must(SpiceSwaps.class.getDeclaredClasses().length <= 11, "some twelve classes");
    must(Modifier.isFinal(SpiceSwaps.class.getModifiers()), "final");
    for (Field x : SpiceSwaps.class.getDeclaredFields()) {
      boolean open = x.getName().equals("NONE") || x.getName().equals("GAP");
      must(open ? Modifier.isPublic(x.getModifiers()) : Modifier.isPrivate(x.getModifiers()), "private but for the constants: " + x);
      must(!Modifier.isStatic(x.getModifiers()) || Modifier.isFinal(x.getModifiers()), "no static state: " + x);
    }
    Constructor<?>[] made = SpiceSwaps.class.getDeclaredConstructors();
    must(made.length == 1 && made[0].getParameterCount() == 0 && Modifier.isPublic(made[0].getModifiers()), "one constructor");
  }

  private static int constants(Class<?> c) {
    int n = 0;
    for (Field f : c.getDeclaredFields()) if (Modifier.isStatic(f.getModifiers())) n++;
    return n;
  }

  /** The source without comments, texts and signs in quotes. */
  private static String bare(String source) {
    return source.replaceAll("(?s)/\\*.*?\\*/", " ").replaceAll("//[^\n]*", " ")
        .replaceAll("\"(\\\\.|[^\"\\\\])*\"", "\"\"").replaceAll("'(\\\\.|[^'\\\\])'", "0");
  }

  private static void words(String code) {
    String[] none = {"throw", "throws", "try", "catch", "finally", "synchronized", "assert", "import", "package", "volatile", "transient",
      "native", "double", "float", "protected", "goto", "Object", "System.out", "Thread", "Random", "var", "record", "yield"};
    for (String word : none) must(!Pattern.compile("\\b" + Pattern.quote(word) + "\\b").matcher(code).find(), "without " + word);
    must(!code.contains("->"), "without lambdas");
    must(!code.contains("::"), "without method references");
    must(!code.contains("static {"), "without static initialisers");
    Matcher calls = Pattern.compile("\\b(String|Math|Integer|Long|System|Arrays)\\.(\\w+)").matcher(code);
    Set<String> fine = Set.of("Math.max", "Math.min", "Integer.bitCount", "System.arraycopy");
    while (calls.find()) must(fine.contains(calls.group()), "in the library: " + calls.group());
    Matcher loops = Pattern.compile("while \\(([^\n]*)\\) \\{").matcher(code);
    while (loops.find()) must(loops.group(1).startsWith("next < end"), "a bound in: while " + loops.group(1));
    Matcher divisors = Pattern.compile("[^/*]([/%]) ([^;\n]*)").matcher(code);
    while (divisors.find()) {
      String by = divisors.group(2);
      boolean safe = by.matches("(\\d|\\(MOST \\+ 1\\)|Math\\.max\\(1,|told\\.places|right|low\\b).*");
      must(safe, "a divisor that was looked at: " + by);
    }
  }

  private static void methods(String source) {
    String[] lines = source.split("\n");
    for (int i = 0; i < lines.length; i++) {
      Matcher m = Pattern.compile("^( {4}| {8})(?! )(?!.*\\b(class|new|return|else|switch|if|for|while)\\b)[\\w\\[\\] ]+\\(([^)]*)\\) \\{$").matcher(lines[i]);
      if (!m.find()) continue;
      int end = i;
      while (!lines[end].equals(m.group(1) + "}")) end++;
      must(end - i <= 60, "at most 60 lines: " + lines[i].trim());
      must(m.group(3).split(",").length <= 7, "at most seven parameters: " + lines[i].trim());
      boolean makes = m.group(1).length() == 4 ? lines[i].contains("public SpiceSwaps()") : lines[i].matches(" {8}[A-Z]\\w*\\(.*|.*packAll.*");
      for (int k = i; k < end; k++) must(makes || !lines[k].contains("new "), "objects are made in constructors: line " + (k + 1));
    }
  }
}
