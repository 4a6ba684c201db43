import java.io.IOException;
import java.lang.reflect.Method;
import java.lang.reflect.Modifier;
import java.nio.file.Files;
import java.nio.file.Path;
import java.util.ArrayList;
import java.util.List;
import java.util.Set;
import java.util.TreeSet;
import java.util.regex.Matcher;
import java.util.regex.Pattern;
import java.util.stream.Stream;

/**
 * What README.md shows: each call in it is made, in the order in which it stands there, and must answer what is written
 * behind it. A line of its examples that is none of the forms known here is wrong, so that nothing is shown unlooked at.
 */
public final class ReadmeTest {
  private static final Path README = Path.of("README.md");
  private static final Path SELF = Path.of("src/test/java/ReadmeTest.java");
  private static final Pattern NEW = Pattern.compile("SpiceSwaps x = new SpiceSwaps\\(\\);");
  private static final Pattern TELL = Pattern.compile("tell\\(x, (text|\"[^\"]*\")\\);  // (\\S+?)(: .+)?");
  private static final Pattern CALL = Pattern.compile("x\\.(\\w+)\\(([^)]*)\\);  // (\\S+?)(: .+)?");
  private static final int MOST_CALLS = 512;

  private static int wrong = 0;
  private static int asked = 0;

  private static SpiceSwaps x = null;
  private static int calls = 0;
  private static String text = "";
  private static final Set<String> SHOWN = new TreeSet<>();

  public static void main(String[] args) throws Exception {
    List<String> lines = Files.readAllLines(README);
    String language = null;
    List<String> block = new ArrayList<>();
    for (String line : lines) {
      if (line.startsWith("```") && language == null) {
        language = line.substring(3);
        block.clear();
      } else if (line.startsWith("```")) {
        look(language, block);
        language = null;
      } else if (language != null) {
        block.add(line);
      }
    }
    must(language == null, "each block of README.md ends");
    showsAll();
    namesAllTests(String.join("\n", lines));
    System.out.println("ReadmeTest: " + asked + " answers looked at, " + wrong + " not as README.md says");
    if (wrong != 0) System.exit(1);
  }

  private static void must(boolean is, String what) {
    if (!is) {
      wrong++;
      System.out.println("not so: " + what);
    }
  }

  private static void look(String language, List<String> block) throws Exception {
    switch (language) {
      case "text" -> text = String.join("\n", block);
      case "java" -> {
        if (block.stream().anyMatch(line -> line.startsWith("static "))) standsHere(block);
        else for (String line : block) run(line);
      }
      case "sh" -> {
        for (String line : block) must(Files.isExecutable(Path.of(line)), "it can be run: " + line);
      }
      default -> must(false, "a block of README.md is text, java or sh, not " + language);
    }
  }

  private static void run(String line) throws Exception {
    if (NEW.matcher(line).matches()) {
      x = new SpiceSwaps();
      calls = 0;
      return;
    }
    Matcher tell = TELL.matcher(line);
    if (tell.matches()) {
      String told = tell.group(1).equals("text") ? text : tell.group(1).substring(1, tell.group(1).length() - 1);
      calls += told.length() / 20 + 4;
      due(line, tell(x, told), tell.group(2));
      return;
    }
    Matcher call = CALL.matcher(line);
    must(call.matches(), "a line of README.md is a call with its answer: " + line);
    if (call.matches()) due(line, answer(call.group(1), call.group(2)), call.group(3));
  }

  private static long answer(String name, String list) throws Exception {
    calls++;
    SHOWN.add(name);
    String[] words = list.isEmpty() ? new String[0] : list.split(", ");
    for (Method m : SpiceSwaps.class.getMethods()) {
      if (m.getName().equals(name) && m.getParameterCount() == words.length) {
        Object[] given = new Object[words.length];
        for (int i = 0; i < words.length; i++) {
          if (m.getParameterTypes()[i] == boolean.class) given[i] = words[i].equals("true");
          else given[i] = Integer.decode(words[i]);
        }
        Object got = m.invoke(x, given);
        return got instanceof Boolean is ? (is ? 1 : 0) : (Integer) got;
      }
    }
    must(false, "the class has " + name + "(" + list + ")");
    return Long.MIN_VALUE;
  }

  private static void due(String line, long got, String shown) {
    asked++;
    long want = switch (shown) {
      case "NONE" -> -1;
      case "GAP" -> -1000000000;
      case "true" -> 1;
      case "false" -> 0;
      default -> Long.parseLong(shown);
    };
    must(got == want, line + " -- it answers " + got);
    must(calls <= MOST_CALLS, "an object is used for " + MOST_CALLS + " calls at most: " + line);
  }

  /** A method that README.md shows must be the one that is used here, word by word. */
  private static void standsHere(List<String> block) throws IOException {
    must(block.get(block.size() - 1).equals("}"), "the method of README.md is whole");
    StringBuilder shown = new StringBuilder();
    for (String line : block) shown.append("  ").append(line).append('\n');
    must(Files.readString(SELF).contains(shown), "the method of README.md is that of ReadmeTest:\n" + shown);
  }

  /** Makes a text the world of an object: how many places it has, NONE if it has a fault. */
  static int tell(SpiceSwaps x, String text) {
    x.end(0);
    for (int i = 0; i < text.length(); i += 20) {
      int[] numbers = new int[5];
      for (int k = 0; k < 20; k++) {
        int sign = i + k < text.length() ? text.charAt(i + k) : ' ';
        numbers[k / 4] = numbers[k / 4] << 8 | sign & 255;
      }
      x.feed(numbers[0], numbers[1], numbers[2], numbers[3], numbers[4]);
    }
    x.end(text.length());
    return x.world();
  }

  private static void showsAll() {
    for (Method m : SpiceSwaps.class.getDeclaredMethods()) {
      boolean isOpen = Modifier.isPublic(m.getModifiers());
      must(!isOpen || SHOWN.contains(m.getName()), "README.md shows a call of " + m.getName());
    }
  }

  private static void namesAllTests(String readme) throws IOException {
    Set<String> named = new TreeSet<>();
    Matcher m = Pattern.compile("`(\\w+Test)`").matcher(readme);
    while (m.find()) named.add(m.group(1));
    Set<String> there = new TreeSet<>();
    try (Stream<Path> files = Files.list(SELF.getParent())) {
      files.map(file -> file.getFileName().toString()).filter(name -> name.endsWith("Test.java"))
          .forEach(name -> there.add(name.substring(0, name.length() - 5)));
    }
    must(named.equals(there), "README.md names the tests " + there + ", it names " + named);
  }
}
