import java.lang.reflect.InvocationTargetException;
import java.lang.reflect.Method;
import java.lang.reflect.Modifier;
import java.util.ArrayList;
import java.util.Comparator;
import java.util.List;
import java.util.Map;
import java.util.Random;

/** Drawn runs of calls, always the same ones, each answered by SpiceSwaps and by the Oracle. */
public final class OracleTest {
  private static final int RUNS = 4000;
  private static int wrong = 0;
  private static long asked = 0;

  public static void main(String[] args) throws ReflectiveOperationException {
    int runs = args.length > 0 ? Integer.parseInt(args[0]) : RUNS;
    long start = args.length > 1 ? Long.parseLong(args[1]) : 0;
    List<Method> methods = new ArrayList<>();
    for (Method m : SpiceSwaps.class.getDeclaredMethods()) {
      if (Modifier.isPublic(m.getModifiers())) methods.add(m);
    }
    methods.sort(Comparator.comparing(Method::getName));
    for (int run = 0; run < runs && wrong == 0; run++) play(methods, new Random(start + run), start + run);
    System.out.println(asked + " calls compared with the oracle, " + wrong + " wrong");
    if (wrong != 0) System.exit(1);
  }

  private static void play(List<Method> methods, Random r, long run) throws ReflectiveOperationException {
    SpiceSwaps x = new SpiceSwaps();
    Oracle o = new Oracle();
    List<String> log = new ArrayList<>();
    int calls = tell(x, o, r, log, 0, run);
    boolean acts = r.nextInt(4) == 0;
    while (calls < 500 && wrong == 0) {
      if (r.nextInt(120) == 0) { calls += tell(x, o, r, log, calls, run); continue; }
      Method m = methods.get(r.nextInt(methods.size()));
      if (acts && r.nextInt(2) == 0) {
        String only = List.of("swap", "cede", "carry", "year", "undo", "redo").get(r.nextInt(6));
        m = methods.stream().filter(y -> y.getName().equals(only)).findFirst().get();
      }
      if (m.getName().equals("world") && r.nextInt(60) != 0) continue;
      Class<?>[] types = m.getParameterTypes();
      String sorts = SORTS.getOrDefault(m.getName(), "");
      Object[] given = new Object[types.length];
      for (int i = 0; i < given.length; i++) {
        given[i] = types[i] == boolean.class ? (Object) r.nextBoolean() : (Object) (i < sorts.length() ? number(r, sorts.charAt(i), o) : r.nextInt());
      }
      compare(x, o, m, given, log, run);
      calls++;
    }
  }

  // What each argument of a call means: p a place, c a court, k a crop, w a what, s a set of places, n years,
  // v a worth, t a time, b how much later, i an index, x a box, y a yield, l a length, a what of about.
  private static final Map<String, String> SORTS = Map.ofEntries(
      Map.entry("end", "l"), Map.entry("fault", "w"), Map.entry("place", "pi"), Map.entry("court", "ci"), Map.entry("crop", "kw"),
      Map.entry("belief", "cp"), Map.entry("worth", "cp"), Map.entry("swap", "pp"), Map.entry("cede", "pc"), Map.entry("carry", "kp"),
      Map.entry("gain", "pp"), Map.entry("best", "w"), Map.entry("envies", "c"), Map.entry("ports", "c"),
      Map.entry("divide", "ccsw"), Map.entry("lots", "ccvw"), Map.entry("seeds", "ckw"), Map.entry("leak", "kp"), Map.entry("will", "cn"),
      Map.entry("ruin", "c"), Map.entry("grown", "pn"), Map.entry("richest", "n"), Map.entry("odds", "iw"), Map.entry("lies", "i"),
      Map.entry("yields", "y"), Map.entry("holds", "c"), Map.entry("grows", "k"), Map.entry("untell", "i"), Map.entry("later", "b"),
      Map.entry("fits", "t"), Map.entry("ask", "wt"), Map.entry("image", "x"), Map.entry("back", "x"), Map.entry("about", "a"));

  private static int number(Random r, char sort, Oracle o) {
    if (r.nextInt(40) == 0) return r.nextInt(3) == 0 ? r.nextInt() : r.nextBoolean() ? Integer.MIN_VALUE : Integer.MAX_VALUE;
    if (r.nextInt(20) == 0) return r.nextInt(12) - 2;
    switch (sort) {
      case 'p': return r.nextInt(o.about(0) + 1);
      case 'c': return r.nextInt(o.about(1) + 1);
      case 'k': return r.nextInt(o.about(2) + 1);
      case 's': return r.nextInt(1 << o.about(0));
      case 'n': return r.nextInt(4) == 0 ? 58 + r.nextInt(4) : r.nextInt(61);
      case 'v': return r.nextInt(3) == 0 ? r.nextInt(1000) - 100 : r.nextInt(40) - 5;
      case 't': return r.nextInt(o.about(9) + 2) - 1;
      case 'b': return r.nextInt(3) == 0 ? r.nextInt(1003) - 1 : r.nextInt(3);
      case 'y': return r.nextInt(3) == 0 ? 98 + r.nextInt(3) : r.nextInt(30);
      case 'l': return r.nextInt(o.about(10) + 2);
      case 'a': return r.nextInt(14);
      case 'i': return r.nextInt(8);
      default: return r.nextInt(4);
    }
  }

  private static void compare(SpiceSwaps x, Oracle o, Method m, Object[] given, List<String> log, long run) throws ReflectiveOperationException {
    Method twin = Oracle.class.getDeclaredMethod(m.getName(), m.getParameterTypes());
    Object got;
    try {
      got = m.invoke(x, given);
    } catch (InvocationTargetException e) {
      got = e.getCause();
    }
    Object due = twin.invoke(o, given);
    asked++;
    log.add(m.getName() + java.util.Arrays.toString(given) + " = " + due);
    if (!due.equals(got)) {
      wrong++;
      System.out.println("run " + run + ": got " + got + " at the end of");
      for (String s : log) System.out.println("  " + s);
    }
  }

  private static int tell(SpiceSwaps x, Oracle o, Random r, List<String> log, int calls, long run) throws ReflectiveOperationException {
    String text = text(r);
    // Most runs are to have a world to speak of; the rest may be refused.
    for (int i = 0; i < 20 && r.nextInt(8) != 0 && Oracle.faultOf(text)[0] != 0; i++) text = text(r);
    log.add("text " + text.length() + ": " + text);
    if (calls + text.length() / 20 + 10 > 500) return 1;
    int n = 0;
    Method end = SpiceSwaps.class.getDeclaredMethod("end", int.class);
    compare(x, o, end, new Object[] {0}, log, run);
    for (int i = 0; i < text.length() && i < 1600; i += 20) {
      Object[] five = new Object[5];
      for (int k = 0; k < 5; k++) {
        int v = 0;
        for (int b = 0; b < 4; b++) {
          int at = i + 4 * k + b;
          v = v << 8 | (at < text.length() ? text.charAt(at) & 255 : 32);
        }
        five[k] = v;
      }
      compare(x, o, SpiceSwaps.class.getDeclaredMethod("feed", int.class, int.class, int.class, int.class, int.class), five, log, run);
      n++;
    }
    compare(x, o, end, new Object[] {Math.min(1600, text.length())}, log, run);
    compare(x, o, SpiceSwaps.class.getDeclaredMethod("world"), new Object[0], log, run);
    for (int w = 0; w < 2; w++) compare(x, o, SpiceSwaps.class.getDeclaredMethod("fault", int.class), new Object[] {w}, log, run);
    return n + 5;
  }

  // ---- texts

  private static final String[] NAMES = {"a", "b", "c", "d", "e", "run", "banda", "nutmeg", "mace", "both", "unit", "line"};
  private static final String[] ODD = {";", "(", ")", "<", "=", "+", "%", "of", "yield", "12345", "abcdefghi", "7x", "1000", "not", "or", "and", "#", "A", "0", "99", "\u00e9", "\t", "\n", "place", "court", "zzz"};

  private static String text(Random r) {
    StringBuilder s = new StringBuilder();
    int courts = r.nextInt(10) == 0 ? r.nextInt(6) : 2 + r.nextInt(3);
    int crops = r.nextInt(20) == 0 ? 4 : r.nextInt(4);
    int places = courts == 0 ? 0 : r.nextInt(30) == 0 ? 8 : r.nextInt(8);
    List<String> lines = new ArrayList<>();
    for (int i = 0; i < courts; i++) lines.add("court " + NAMES[i] + " gold " + (r.nextInt(3) == 0 ? r.nextInt(1000) : r.nextInt(20)));
    for (int i = 0; i < crops; i++) lines.add("crop " + NAMES[i + (r.nextInt(20) == 0 ? 1 : 5)] + " price " + (1 + r.nextInt(9)));
    boolean low = r.nextInt(3) == 0;
    for (int i = 0; i < places; i++) {
      lines.add("place " + NAMES[i] + " of " + NAMES[r.nextInt(courts)] + " yield " + (low ? r.nextInt(5) : r.nextInt(100))
          + (r.nextBoolean() ? " harbour" : "")
          + (crops > 0 && r.nextInt(3) > 0 ? " grows " + lines.get(courts + r.nextInt(crops)).split(" ")[1] : "")
          + (r.nextInt(3) == 0 ? " garrison " + r.nextInt(21) : ""));
    }
    int beliefs = r.nextInt(2) == 0 ? 60 : r.nextInt(12);
    for (int i = 0; i < beliefs && places > 0; i++) {
      String line = "believes " + NAMES[r.nextInt(courts)] + " " + NAMES[r.nextInt(places)] + " ";
      boolean twice = lines.stream().anyMatch(l -> l.startsWith(line));
      if (!twice || r.nextInt(300) == 0) lines.add(line + r.nextInt(201));
    }
    int how = r.nextInt(5);
    if (how < 2) lines.add("worth " + formula(r, 0, 0));
    if (how == 2) lines.add("worth belief * 7 % (yield + 3) - 3");
    if (how == 3) lines.add("worth belief");
    if (r.nextInt(3) > 0) lines.add("grow " + (r.nextInt(3) == 0 ? "(year + yield) % 7 - 3" : formula(r, 0, 0)));
    if (r.nextInt(30) == 0) lines.add("worth " + formula(r, 0, 0));
    if (r.nextInt(30) == 0) lines.add("grow " + longFormula(r));
    if (r.nextInt(2) == 0) lines.add("storm " + (r.nextInt(4) == 0 ? 100 : r.nextInt(101)) + " of " + (1 + r.nextInt(99)));
    if (r.nextInt(2) == 0) lines.add("draw " + r.nextInt(1000));
    for (String l : lines) s.append(l).append(r.nextInt(3) == 0 ? " ; " : r.nextBoolean() ? ";" : ";\n");
    if (r.nextInt(4) == 0) mutate(s, r);
    return s.toString();
  }

  private static void mutate(StringBuilder s, Random r) {
    for (int n = 1 + r.nextInt(2); n > 0 && s.length() > 0; n--) {
      int at = r.nextInt(s.length());
      switch (r.nextInt(5)) {
        case 0: s.setLength(at); break;
        case 1: s.deleteCharAt(at); break;
        case 2: s.insert(at, ODD[r.nextInt(ODD.length)]); break;
        case 3: s.insert(at, " " + ODD[r.nextInt(ODD.length)] + " "); break;
        default: s.setCharAt(at, (char) (r.nextInt(3) == 0 ? r.nextInt(256) : 32 + r.nextInt(96)));
      }
    }
  }

  // By the grammar, level by level: 0 or, 1 and, 2 relations and not, 3 sums, 4 terms, 5 units.
  private static String formula(Random r, int level, int deep) {
    String[] lights = {"yield", "belief", "harbour", "garrison", "price", "held", "year"};
    if (level == 5) {
      if (deep < 5 && r.nextInt(6) == 0) return "(" + formula(r, 0, deep + 1) + ")";
      return r.nextInt(3) > 0 ? lights[r.nextInt(7)] : "" + (r.nextInt(5) == 0 ? r.nextInt(10000) : r.nextInt(12));
    }
    if (level == 2 && r.nextInt(8) == 0) return "not ".repeat(r.nextInt(20) == 0 ? r.nextInt(9) : 1 + r.nextInt(2)) + formula(r, 2, deep + 2);
    String[] joins = {"or", "and", "<>=", "+-", "*/%"};
    StringBuilder s = new StringBuilder(formula(r, level + 1, deep));
    int more = r.nextInt(level < 3 ? 8 : 3) == 0 ? 1 + (level == 2 ? 0 : r.nextInt(2)) : 0;
    for (int i = 0; i < more; i++) {
      String join = level < 2 ? joins[level] : "" + joins[level].charAt(r.nextInt(joins[level].length()));
      s.append(r.nextBoolean() || level < 2 ? " " + join + " " : join).append(formula(r, level + 1, deep));
    }
    return s.toString();
  }

  private static String longFormula(Random r) {
    StringBuilder s = new StringBuilder("1");
    int n = 26 + r.nextInt(7);
    for (int i = 1; i < n; i++) s.append("+-*/%".charAt(r.nextInt(5))).append(r.nextInt(10));
    return s.toString();
  }
}
