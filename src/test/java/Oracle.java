import java.math.BigInteger;
import java.nio.charset.StandardCharsets;
import java.util.ArrayDeque;
import java.util.ArrayList;
import java.util.Arrays;
import java.util.Comparator;
import java.util.HashMap;
import java.util.LinkedHashMap;
import java.util.List;
import java.util.Map;
import java.util.Set;
import java.util.TreeMap;

/** The document once more, written with the whole Java library and by other ways, to be compared with. */
public final class Oracle {
  static final int NONE = -1;
  static final int GAP = -1000000000;

  private interface Node { int at(Map<String, Integer> env); }

  private static final class Fault extends RuntimeException {
    final int code;
    final int place;
    private static final long serialVersionUID = 1;
    Fault(int code, int place) { super(null, null, false, false); this.code = code; this.place = place; }
  }

  private record Token(String text, char kind, int place) { }

  private record State(List<Integer> holder, List<Integer> yield, List<Integer> crop, List<Integer> gold, int year, int seed) { }

  private record Said(String sort, int value, boolean is, int told, int[] untold) { }

  private static final class Facts {
    final Map<String, Integer> courts = new LinkedHashMap<>();
    final Map<String, Integer> crops = new LinkedHashMap<>();
    final Map<String, Integer> places = new LinkedHashMap<>();
    final List<Integer> holder = new ArrayList<>();
    final List<Integer> yield = new ArrayList<>();
    final List<Integer> crop = new ArrayList<>();
    final List<Boolean> harbour = new ArrayList<>();
    final List<Integer> garrison = new ArrayList<>();
    final Map<String, Integer> beliefs = new HashMap<>();
    Node worth;
    Node grow;
    int units;
    int[] storm;
    Integer draw;
    int price(int crop) { return new ArrayList<>(crops.values()).get(crop); }
  }

  // ---- the text

  private static final Set<String> WORDS = Set.of(
      "court gold crop price place of yield harbour grows garrison believes worth grow storm draw or and not belief held year".split(" "));

  private static final class Parser {
    final List<Token> tokens = new ArrayList<>();
    int i = 0;
    int units;
    final Facts f = new Facts();

    Parser(String s) {
      int p = 0;
      while (p < s.length()) {
        char c = s.charAt(p);
        if (c == ' ' || c == '\n') { p++; continue; }
        int q = p;
        if (c >= 'a' && c <= 'z') {
          while (q < s.length() && s.substring(q, q + 1).matches("[a-z]")) q++;
          String w = s.substring(p, q);
          tokens.add(new Token(w, w.length() > 8 ? '!' : WORDS.contains(w) ? 'w' : 'n', p));
        } else if (c >= '0' && c <= '9') {
          while (q < s.length() && s.substring(q, q + 1).matches("[0-9]")) q++;
          String w = s.substring(p, q);
          boolean letter = q < s.length() && s.substring(q, q + 1).matches("[a-z]");
          tokens.add(new Token(w, w.length() > 4 || letter ? '!' : '0', p));
        } else {
          q = p + 1;
          tokens.add(new Token("" + c, ";()<>=+-*/%".indexOf(c) >= 0 ? 's' : '!', p));
        }
        p = q;
      }
      tokens.add(new Token("", 'e', s.length()));
    }

    Token peek() {
      Token t = tokens.get(i);
      if (t.kind == '!') throw new Fault(1, t.place);
      return t;
    }
    boolean sees(String text) { Token t = peek(); return t.kind != 'e' && t.text.equals(text); }
    void must(String text) { if (!sees(text)) throw new Fault(2, peek().place); i++; }
    Token name() { Token t = peek(); if (t.kind != 'n') throw new Fault(2, t.place); return t; }
    int number(int low, int high) {
      Token t = peek();
      if (t.kind != '0') throw new Fault(2, t.place);
      int n = Integer.parseInt(t.text);
      if (n < low || n > high) throw new Fault(4, t.place);
      i++;
      return n;
    }
    int known(Map<String, Integer> of) {
      Token t = name();
      int k = new ArrayList<>(of.keySet()).indexOf(t.text);
      if (k < 0) throw new Fault(5, t.place);
      i++;
      return k;
    }
    String fresh(Map<String, Integer> of) {
      Token t = name();
      if (of.containsKey(t.text)) throw new Fault(3, t.place);
      i++;
      return t.text;
    }

    Facts parse() {
      while (peek().kind != 'e') {
        Token t = peek();
        String w = t.kind == 'w' ? t.text : "";
        boolean tooMany = switch (w) {
          case "court" -> f.courts.size() == 4;
          case "crop" -> f.crops.size() == 3;
          case "place" -> f.places.size() == 7;
          case "believes" -> false;
          case "worth" -> f.worth != null;
          case "grow" -> f.grow != null;
          case "storm" -> f.storm != null;
          case "draw" -> f.draw != null;
          default -> true;
        };
        if (tooMany) throw new Fault(2, t.place);
        i++;
        switch (w) {
          case "court" -> { String n = fresh(f.courts); must("gold"); f.courts.put(n, number(0, 999)); }
          case "crop" -> { String n = fresh(f.crops); must("price"); f.crops.put(n, number(1, 9)); }
          case "place" -> parsePlace();
          case "believes" -> {
            int c = known(f.courts);
            Token at = name();
            int p = known(f.places);
            if (f.beliefs.containsKey(c + "/" + p)) throw new Fault(3, at.place);
            f.beliefs.put(c + "/" + p, number(0, 200));
          }
          case "worth" -> f.worth = formula();
          case "grow" -> f.grow = formula();
          case "storm" -> { int a = number(0, 100); must("of"); f.storm = new int[] {a, number(1, 99)}; }
          default -> f.draw = number(0, 999);
        }
        must(";");
      }
      return f;
    }

    void parsePlace() {
      String n = fresh(f.places);
      must("of");
      f.holder.add(known(f.courts));
      must("yield");
      f.yield.add(number(0, 99));
      boolean h = sees("harbour");
      if (h) i++;
      f.harbour.add(h);
      int crop = NONE;
      if (sees("grows")) { i++; crop = known(f.crops); }
      f.crop.add(crop);
      int g = 0;
      if (sees("garrison")) { i++; g = number(0, 20); }
      f.garrison.add(g);
      f.places.put(n, 0);
    }

    Node formula() {
      units = 0;
      Node n = e(0);
      return n;
    }
    Node e(int deep) {
      Node left = both(deep);
      while (sees("or")) { i++; Node l = left; Node r = both(deep); left = v -> l.at(v) != 0 | r.at(v) != 0 ? 1 : 0; }
      return left;
    }
    Node both(int deep) {
      Node left = one(deep);
      while (sees("and")) { i++; Node l = left; Node r = one(deep); left = v -> l.at(v) != 0 & r.at(v) != 0 ? 1 : 0; }
      return left;
    }
    Node one(int deep) {
      if (sees("not")) {
        if (deep > 6) throw new Fault(2, peek().place);
        i++;
        Node n = one(deep + 1);
        return v -> n.at(v) == 0 ? 1 : 0;
      }
      Node l = sum(deep);
      if (sees("<")) { i++; Node r = sum(deep); return v -> l.at(v) < r.at(v) ? 1 : 0; }
      if (sees(">")) { i++; Node r = sum(deep); return v -> l.at(v) > r.at(v) ? 1 : 0; }
      if (sees("=")) { i++; Node r = sum(deep); return v -> l.at(v) == r.at(v) ? 1 : 0; }
      return l;
    }
    Node sum(int deep) {
      Node left = term(deep);
      while (sees("+") || sees("-")) {
        boolean plus = sees("+");
        i++;
        Node l = left;
        Node r = term(deep);
        left = plus ? v -> l.at(v) + r.at(v) : v -> l.at(v) - r.at(v);
      }
      return left;
    }
    Node term(int deep) {
      Node left = unit(deep);
      while (sees("*") || sees("/") || sees("%")) {
        String op = peek().text;
        i++;
        Node l = left;
        Node r = unit(deep);
        left = v -> {
          BigInteger a = BigInteger.valueOf(l.at(v));
          BigInteger b = BigInteger.valueOf(r.at(v));
          if (op.equals("*")) return a.multiply(b).intValue();
          if (b.signum() == 0) return 0;
          return (op.equals("/") ? a.divide(b) : a.remainder(b)).intValue();
        };
      }
      return left;
    }
    Node unit(int deep) {
      Token t = peek();
      boolean light = Set.of("yield", "belief", "harbour", "garrison", "price", "held", "year").contains(t.text);
      boolean paren = sees("(");
      if (t.kind != '0' && !light && !paren) throw new Fault(2, t.place);
      units++;
      f.units++;
      if (units > 30 || f.units > 60) throw new Fault(2, t.place);
      if (paren && deep > 6) throw new Fault(2, t.place);
      i++;
      if (paren) { Node n = e(deep + 1); must(")"); return n; }
      if (light) return v -> v.get(t.text);
      int n = Integer.parseInt(t.text);
      return v -> n;
    }
  }

  // ---- state

  private final List<Byte> tape = new ArrayList<>();
  private Facts f = new Facts();
  private int fault = 0;
  private int faultAt = NONE;
  private State s = start(f);
  private final ArrayDeque<State> past = new ArrayDeque<>();
  private final ArrayDeque<State> future = new ArrayDeque<>();
  private final Map<Integer, State> boxes = new HashMap<>();
  private final List<Said> said = new ArrayList<>();
  private List<Integer> lying = List.of();
  private int time = 0;

  private static State start(Facts f) {
    return new State(List.copyOf(f.holder), List.copyOf(f.yield), List.copyOf(f.crop), List.copyOf(f.courts.values()), 0, f.draw == null ? 0 : f.draw);
  }

  public int feed(int a, int b, int c, int d, int e) {
    if (tape.size() > 1580) return NONE;
    for (int n : new int[] {a, b, c, d, e}) {
      for (byte x : java.nio.ByteBuffer.allocate(4).putInt(n).array()) tape.add(x);
    }
    return tape.size();
  }
  public int end(int n) {
    if (n < 0 || n > tape.size()) return NONE;
    tape.subList(n, tape.size()).clear();
    return n;
  }
  public int world() {
    byte[] all = new byte[tape.size()];
    for (int i = 0; i < all.length; i++) all[i] = tape.get(i);
    try {
      f = new Parser(new String(all, StandardCharsets.ISO_8859_1)).parse();
    } catch (Fault x) {
      fault = x.code;
      faultAt = x.place;
      return NONE;
    }
    fault = 0;
    faultAt = NONE;
    tape.clear();
    s = start(f);
    past.clear();
    future.clear();
    said.clear();
    lying = List.of();
    boxes.clear();
    return places();
  }
  /** The fault of a text and its place; 0 and NONE without one. */
  static int[] faultOf(String text) {
    try {
      new Parser(text).parse();
      return new int[] {0, NONE};
    } catch (Fault x) {
      return new int[] {x.code, x.place};
    }
  }
  public int fault(int what) { return what == 0 ? fault : what == 1 ? faultAt : NONE; }

  private int places() { return f.places.size(); }
  private int courts() { return f.courts.size(); }
  private int crops() { return f.crops.size(); }
  private boolean p(int place) { return place >= 0 && place < places(); }
  private boolean c(int court) { return court >= 0 && court < courts(); }
  private boolean k(int crop) { return crop >= 0 && crop < crops(); }

  private static Set<Integer> growers(State s, int crop) {
    Set<Integer> all = new java.util.TreeSet<>();
    for (int i = 0; i < s.holder.size(); i++) if (s.crop.get(i) == crop) all.add(s.holder.get(i));
    return all;
  }
  private int earned(State s, int place) {
    int crop = s.crop.get(place);
    int y = s.yield.get(place);
    return (crop < 0 ? y : y * f.price(crop) / growers(s, crop).size()) - f.garrison.get(place);
  }
  private int earnedBy(State s, int court) {
    int all = 0;
    for (int i = 0; i < places(); i++) all += s.holder.get(i) == court ? earned(s, i) : 0;
    return all;
  }
  private Map<String, Integer> env(State s, int court, int place, int belief) {
    Map<String, Integer> m = new HashMap<>();
    m.put("yield", s.yield.get(place));
    m.put("belief", belief);
    m.put("harbour", f.harbour.get(place) ? 1 : 0);
    m.put("garrison", f.garrison.get(place));
    m.put("price", s.crop.get(place) < 0 ? 1 : f.price(s.crop.get(place)));
    m.put("held", (int) s.holder.stream().filter(h -> h == court).count());
    m.put("year", s.year);
    return m;
  }
  private int w(State s, int court, int place) {
    int b = f.beliefs.getOrDefault(court + "/" + place, 100);
    if (f.worth == null) return s.yield.get(place) * b / 100;
    return Math.min(99999, Math.max(-99999, f.worth.at(env(s, court, place, b))));
  }
  private static int bits(Iterable<Integer> of) { int b = 0; for (int i : of) b |= 1 << i; return b; }
  private int held(int court) { int b = 0; for (int i = 0; i < places(); i++) if (s.holder.get(i) == court) b += 1 << i; return b; }
  private int wset(int court, int set) { int b = 0; for (int i = 0; i < places(); i++) if ((set & 1 << i) != 0) b += w(s, court, i); return b; }

  public int place(int place, int what) {
    if (!p(place)) return GAP;
    return switch (what) {
      case 0 -> s.holder.get(place);
      case 1 -> s.yield.get(place);
      case 2 -> s.crop.get(place);
      case 3 -> f.harbour.get(place) ? 1 : 0;
      case 4 -> f.garrison.get(place);
      case 5 -> earned(s, place);
      default -> GAP;
    };
  }
  public int court(int court, int what) {
    if (!c(court)) return GAP;
    return switch (what) {
      case 0 -> s.gold.get(court);
      case 1 -> held(court);
      case 2 -> earnedBy(s, court);
      case 3 -> wset(court, held(court));
      default -> GAP;
    };
  }
  public int crop(int crop, int what) {
    if (!k(crop)) return NONE;
    if (what == 0) return f.price(crop);
    if (what == 1) return bits(growers(s, crop));
    int b = 0;
    for (int i = 0; i < places(); i++) if (s.crop.get(i) == crop) b |= 1 << i;
    return what == 2 ? b : NONE;
  }
  public int belief(int court, int place) { return c(court) && p(place) ? f.beliefs.getOrDefault(court + "/" + place, 100) : NONE; }
  public int worth(int court, int place) { return c(court) && p(place) ? w(s, court, place) : GAP; }

  private void act(State then) {
    past.addLast(s);
    if (past.size() > 40) past.removeFirst();
    future.clear();
    s = then;
  }
  private static List<Integer> with(List<Integer> l, int i, int v) { List<Integer> n = new ArrayList<>(l); n.set(i, v); return n; }
  private static State hold(State s, int i, int v) { return new State(with(s.holder, i, v), s.yield, s.crop, s.gold, s.year, s.seed); }
  private static State grow(State s, int i, int v) { return new State(s.holder, s.yield, with(s.crop, i, v), s.gold, s.year, s.seed); }

  public boolean swap(int place, int other) {
    if (!p(place) || !p(other) || s.holder.get(place).equals(s.holder.get(other))) return false;
    act(hold(hold(s, place, s.holder.get(other)), other, s.holder.get(place)));
    return true;
  }
  public int cede(int place, int court) {
    if (!p(place) || !c(court) || s.holder.get(place) == court) return NONE;
    int was = s.holder.get(place);
    act(hold(s, place, court));
    return was;
  }
  public int carry(int crop, int place) {
    if (!k(crop) || !p(place) || s.crop.get(place) >= 0 || !growers(s, crop).contains(s.holder.get(place))) return NONE;
    act(grow(s, place, crop));
    return growers(s, crop).size();
  }
  private State next(State s) {
    List<Integer> gold = new ArrayList<>();
    for (int i = 0; i < courts(); i++) gold.add(s.gold.get(i) + earnedBy(s, i));
    List<Integer> y = new ArrayList<>();
    for (int i = 0; i < places(); i++) {
      int g = f.grow == null ? 0 : f.grow.at(env(s, s.holder.get(i), i, 100));
      y.add(Math.min(99, Math.max(0, s.yield.get(i) + Math.min(9, Math.max(-9, g)))));
    }
    int seed = (137 * s.seed + 71) % 1000;
    if (f.storm != null && places() > 0 && seed % 100 < f.storm[0]) {
      int hit = seed % places();
      y.set(hit, Math.max(0, y.get(hit) - f.storm[1]));
    }
    return new State(s.holder, y, s.crop, gold, s.year + 1, seed);
  }
  private State in(int n) { State t = s; for (int i = 0; i < n; i++) t = next(t); return t; }
  public int year() {
    if (s.year >= 999) return GAP;
    int all = 0;
    for (int i = 0; i < places(); i++) all += earned(s, i);
    act(next(s));
    return all;
  }
  public boolean undo() {
    if (past.isEmpty()) return false;
    future.addLast(s);
    s = past.removeLast();
    return true;
  }
  public boolean redo() {
    if (future.isEmpty()) return false;
    past.addLast(s);
    s = future.removeLast();
    return true;
  }

  // ---- bargains

  public int gain(int place, int other) {
    if (!p(place) || !p(other) || s.holder.get(place).equals(s.holder.get(other))) return GAP;
    return w(s, s.holder.get(place), other) - w(s, s.holder.get(place), place);
  }
  private List<int[]> goodSwaps(State s) {
    List<int[]> all = new ArrayList<>();
    for (int a = 0; a < places(); a++) {
      for (int b = a + 1; b < places(); b++) {
        int ca = s.holder.get(a);
        int cb = s.holder.get(b);
        int ga = w(s, ca, b) - w(s, ca, a);
        int gb = w(s, cb, a) - w(s, cb, b);
        if (ca != cb && ga >= 0 && gb >= 0) all.add(new int[] {ga + gb, a, b});
      }
    }
    // A stable sort: of like sums the first stays first.
    all.sort(Comparator.comparingInt(x -> -x[0]));
    return all;
  }
  public int best(int what) {
    List<int[]> all = goodSwaps(s);
    return all.isEmpty() || what < 0 || what > 2 ? GAP : all.get(0)[what];
  }
  public int swaps() { return goodSwaps(s).size(); }
  public int haggle() {
    State t = s;
    for (int n = 0; n <= 20; n++) {
      List<int[]> all = goodSwaps(t);
      if (all.isEmpty() || all.get(0)[0] <= 0) { lying = t.holder; return n; }
      int a = all.get(0)[1];
      int b = all.get(0)[2];
      t = hold(hold(t, a, t.holder.get(b)), b, t.holder.get(a));
    }
    lying = List.of();
    return NONE;
  }
  public int envies(int court) {
    if (!c(court)) return NONE;
    int b = 0;
    for (int i = 0; i < courts(); i++) if (i != court && wset(court, held(i)) > wset(court, held(court))) b |= 1 << i;
    return b;
  }
  public int ports(int court) {
    if (!c(court)) return NONE;
    int n = 0;
    for (int i = 0; i < places(); i++) if (f.harbour.get(i) && s.holder.get(i) == court) n++;
    return n;
  }
  // Every row of places in which no court comes twice, as a round: the place at i goes to the court of the next one.
  private void rounds(List<Integer> row, List<List<Integer>> out) {
    if (row.size() >= 2) out.add(List.copyOf(row));
    for (int i = 0; i < places(); i++) {
      int c = s.holder.get(i);
      if (row.stream().anyMatch(x -> s.holder.get(x) == c)) continue;
      row.add(i);
      rounds(row, out);
      row.remove(row.size() - 1);
    }
  }
  public int ring() {
    List<List<Integer>> all = new ArrayList<>();
    rounds(new ArrayList<>(), all);
    List<int[]> good = new ArrayList<>();
    for (List<Integer> r : all) {
      int sum = 0;
      boolean ok = true;
      int[] key = new int[2 + courts()];
      Arrays.fill(key, NONE);
      for (int i = 0; i < r.size(); i++) {
        int given = r.get(i);
        int got = r.get((i + r.size() - 1) % r.size());
        int c = s.holder.get(given);
        int g = w(s, c, got) - w(s, c, given);
        ok &= g >= 0;
        sum += g;
        key[2 + c] = given;
      }
      key[0] = -sum;
      key[1] = r.size();
      if (ok) good.add(key);
    }
    lying = List.of();
    if (good.isEmpty()) return GAP;
    good.sort(Arrays::compare);
    List<Integer> out = new ArrayList<>();
    for (int i = 2; i < good.get(0).length; i++) out.add(good.get(0)[i]);
    lying = out;
    return -good.get(0)[0];
  }
  public int dear() {
    int sum = 0;
    List<Integer> out = new ArrayList<>();
    for (int i = 0; i < places(); i++) {
      int best = 0;
      for (int c = 0; c < courts(); c++) if (w(s, c, i) > w(s, best, i)) best = c;
      out.add(best);
      sum += w(s, best, i);
    }
    lying = out;
    return sum;
  }
  public int misheld() {
    int b = 0;
    for (int i = 0; i < places(); i++) for (int c = 0; c < courts(); c++) if (w(s, c, i) > w(s, s.holder.get(i), i)) b |= 1 << i;
    return b;
  }
  public int divide(int court, int other, int set, int what) {
    if (!c(court) || !c(other) || court == other || what < 0 || what > 2 || set < 0 || set >> places() != 0) return GAP;
    List<int[]> all = new ArrayList<>();
    int a = set;
    while (true) {
      int x = wset(court, a);
      int y = wset(other, set - a);
      all.add(new int[] {-Math.min(x, y), -(x + y), a});
      if (a == 0) break;
      a = a - 1 & set;
    }
    all.sort(Arrays::compare);
    int[] r = all.get(0);
    return what == 2 ? r[2] : -r[what];
  }
  public int lots(int court, int other, int worth, int what) {
    if (!c(court) || !c(other) || court == other || what < 0 || what > 2) return GAP;
    List<int[]> all = new ArrayList<>();
    int h = held(court);
    int a = h;
    while (true) {
      if (wset(other, a) >= worth) all.add(new int[] {Integer.bitCount(a), wset(court, a), a});
      if (a == 0) break;
      a = a - 1 & h;
    }
    all.sort(Arrays::compare);
    return all.isEmpty() ? GAP : all.get(0)[what];
  }
  public int seeds(int court, int crop, int what) {
    if (!c(court) || !k(crop) || what < 0 || what > 1 || !growers(s, crop).contains(court)) return GAP;
    List<int[]> all = new ArrayList<>();
    for (int i = 0; i < places(); i++) {
      if (s.holder.get(i) == court && s.crop.get(i) < 0) all.add(new int[] {earnedBy(s, court) - earnedBy(grow(s, i, crop), court), i});
    }
    all.sort(Arrays::compare);
    return all.isEmpty() ? GAP : what == 0 ? all.get(0)[1] : -all.get(0)[0];
  }
  public int leak(int crop, int place) {
    if (!k(crop) || !p(place) || s.crop.get(place) >= 0) return GAP;
    int less = 0;
    State t = grow(s, place, crop);
    for (int i = 0; i < places(); i++) if (!s.holder.get(i).equals(s.holder.get(place))) less += earned(s, i) - earned(t, i);
    return less;
  }
  public int will(int court, int n) { return c(court) && n >= 0 && n <= 60 ? in(n).gold.get(court) : GAP; }
  public int ruin(int court) {
    if (!c(court)) return NONE;
    State t = s;
    for (int n = 0; n <= 60; n++, t = next(t)) if (t.gold.get(court) < 0) return n;
    return NONE;
  }
  public int grown(int place, int n) { return p(place) && n >= 0 && n <= 60 ? in(n).yield.get(place) : NONE; }
  public int richest(int n) {
    if (n < 0 || n > 60 || courts() == 0) return NONE;
    List<Integer> gold = in(n).gold;
    return gold.indexOf(java.util.Collections.max(gold));
  }
  public int odds(int n, int part) {
    if (places() == 0 || n < 0 || n > 3 || part < 0 || part > 1) return NONE;
    BigInteger low = BigInteger.valueOf(100L * places());
    BigInteger up = low.subtract(BigInteger.valueOf(f.storm == null ? 0 : f.storm[0])).pow(n);
    low = low.pow(n);
    BigInteger g = up.gcd(low);
    return (part == 0 ? up : low).divide(g).intValueExact();
  }
  public int lies(int i) { return i < 0 || i >= lying.size() ? -2 : lying.get(i); }

  // ---- the secret article

  private int tell(String sort, int value, boolean is) {
    if (said.size() == 30) return NONE;
    said.add(new Said(sort, value, is, time, new int[] {Integer.MAX_VALUE}));
    return said.size() - 1;
  }
  public int yields(int least, boolean is) { return least < 0 || least > 99 ? NONE : tell("yield", least, is); }
  public int harbours(boolean is) { return tell("harbour", 0, is); }
  public int holds(int court, boolean is) { return c(court) ? tell("holds", court, is) : NONE; }
  public int grows(int crop, boolean is) { return k(crop) ? tell("grows", crop, is) : NONE; }
  public boolean untell(int n) {
    if (n < 0 || n >= said.size() || said.get(n).untold[0] != Integer.MAX_VALUE) return false;
    said.get(n).untold[0] = time;
    return true;
  }
  public int later(int by) {
    if (by < 0 || by > 1000 || time + by > 100000) return NONE;
    return time += by;
  }
  private List<Integer> fit(int at) {
    List<Integer> all = new ArrayList<>();
    for (int i = 0; i < places(); i++) {
      boolean ok = true;
      for (Said x : said) {
        boolean counts = x.told <= at && !(x.untold[0] != Integer.MAX_VALUE && x.untold[0] <= at);
        boolean so = switch (x.sort) {
          case "yield" -> s.yield.get(i) >= x.value;
          case "harbour" -> f.harbour.get(i);
          case "holds" -> s.holder.get(i) == x.value;
          default -> s.crop.get(i) == x.value;
        };
        if (counts && so != x.is) ok = false;
      }
      if (ok) all.add(i);
    }
    return all;
  }
  public int fits(int k) { return bits(fit(k)); }
  public int ask(int what, int k) {
    List<Integer> all = fit(k);
    if (all.isEmpty() || what < 0 || what > 1) return NONE;
    int[][] best = new int[3][];
    for (int q = 0; q < 3; q++) {
      Map<Integer, Integer> groups = new TreeMap<>();
      for (int i : all) groups.merge(q == 0 ? (f.harbour.get(i) ? 1 : 0) : q == 1 ? s.holder.get(i) : s.crop.get(i), 1, Integer::sum);
      best[q] = new int[] {java.util.Collections.max(groups.values()), q};
    }
    Arrays.sort(best, Arrays::compare);
    return what == 0 ? best[0][1] : best[0][0];
  }
  public int image(int box) {
    if (box < 0 || box > 2) return NONE;
    boxes.put(box, s);
    return s.year;
  }
  public int back(int box) {
    if (!boxes.containsKey(box)) return NONE;
    s = boxes.get(box);
    past.clear();
    future.clear();
    return s.year;
  }
  public int about(int what) {
    return switch (what) {
      case 0 -> places();
      case 1 -> courts();
      case 2 -> crops();
      case 3 -> s.year;
      case 4 -> s.seed;
      case 5 -> s.yield.stream().mapToInt(Integer::intValue).sum();
      case 6 -> past.size();
      case 7 -> future.size();
      case 8 -> said.size();
      case 9 -> time;
      case 10 -> tape.size();
      case 11 -> f.units;
      case 12 -> lying.size();
      default -> NONE;
    };
  }
}
