import java.io.IOException;
import java.io.UncheckedIOException;
import java.nio.file.Files;
import java.nio.file.Path;
import java.util.ArrayList;
import java.util.List;

/**
 * What the tests of boundary cases share: the sentence of the document that a test is of, objects in which all that
 * can change has something in it, and whether a call has changed anything at all.
 */
final class Edge {
  static final int NONE = -1;
  static final int GAP = -1000000000;
  static final int LOW = Integer.MIN_VALUE;
  static final int HIGH = Integer.MAX_VALUE;

  interface Made { SpiceSwaps make(); }

  interface Call { long on(SpiceSwaps x); }

  interface IndexedCall { long on(SpiceSwaps x, int i); }

  private interface View { void of(SpiceSwaps x, Seen seen); }

  private static String document;
  private static String sentence = "";

  private Edge() { }

  /** Tests behind this are of these words of the document; that they stand there is a test, too. */
  static void sentence(String words) {
    if (document == null) document = read();
    sentence = words;
    if (!document.contains(words.replaceAll("\\s+", " "))) Due.due(0, "the document says \"" + words + "\"", 0, 1);
  }

  private static String read() {
    try {
      return Files.readString(Path.of("../shared/DOC.md")).replaceAll("\\s+", " ");
    } catch (IOException e) {
      throw new UncheckedIOException(e);
    }
  }

  static void due(int promise, String what, long got, long want) {
    Due.due(promise, what + " (of: " + sentence + ")", got, want);
  }

  static void due(int promise, String what, boolean got, boolean want) {
    due(promise, what, got ? 1 : 0, want ? 1 : 0);
  }

  static int bit(boolean is) {
    return is ? 1 : 0;
  }

  // ---- objects

  static final String BUSY = "court a gold 5;court b gold 0;court c gold 9;crop mace price 4;crop clove price 3;"
      + "place p of a yield 10 harbour grows mace garrison 3;place q of b yield 7 grows mace;place r of b yield 6 harbour;"
      + "place s of c yield 9 grows clove garrison 20;place t of a yield 0;"
      + "believes a q 150;believes b p 50;believes c r 200;worth yield * belief / 100 + held * year;grow 1 + harbour;storm 50 of 3;draw 7;";

  static final String FULL = "court a gold 999;court b gold 0;court c gold 1;court d gold 2;crop mace price 9;crop clove price 1;crop nut price 5;"
      + "place p of a yield 99 grows mace;place q of b yield 0 grows mace;place r of c yield 5 harbour;place s of d yield 7 grows clove;"
      + "place t of a yield 3 grows nut;place u of b yield 8;place v of c yield 9 grows nut garrison 20;"
      + "believes a q 200;believes b p 0;believes d v 150;worth belief * (1 + yield) % 97;grow 3 - yield % 5;storm 100 of 2;draw 999;";

  /** Some acts done and some taken back, some said and some untold, two boxes full, numbers lie there, a world is on the tape. */
  private static SpiceSwaps busyWith(String text) {
    SpiceSwaps x = Due.told(text);
    x.later(4);
    x.harbours(false);
    x.later(3);
    x.holds(0, false);
    x.untell(0);
    x.yields(3, true);
    x.swap(0, 3);
    x.image(0);
    x.year();
    x.cede(1, 0);
    x.image(2);
    x.year();
    x.cede(2, 0);
    x.undo();
    x.undo();
    x.dear();
    Due.tape(x, "court z gold 77;place y of z yield 5;draw 3;");
    return x;
  }

  static SpiceSwaps busy() {
    return busyWith(BUSY);
  }

  static SpiceSwaps full() {
    return busyWith(FULL);
  }

  static SpiceSwaps empty() {
    return new SpiceSwaps();
  }

  /** As busy, but the latest text was refused. */
  static SpiceSwaps faulted() {
    SpiceSwaps x = busyWith(BUSY);
    Due.tape(x, "draw 1;draw 2;");
    x.world();
    return x;
  }

  static final Made[] ALL = {Edge::empty, Edge::busy, Edge::full, Edge::faulted};

  // ---- whether all is as it was

  /** What was seen of an object, a line for each answer. */
  private static final class Seen {
    final List<String> lines = new ArrayList<>();

    void add(String what, long answer) {
      lines.add(what + " = " + answer);
    }
  }

  private static final View[] VIEWS = {Edge::seeNow, Edge::seeUndone, Edge::seeRedone, Edge::seeBoxes, Edge::seeTape};

  private static void seeNow(SpiceSwaps x, Seen seen) {
    for (int w = 0; w <= 12; w++) seen.add("about(" + w + ")", x.about(w));
    for (int w = 0; w <= 1; w++) seen.add("fault(" + w + ")", x.fault(w));
    for (int p = 0; p < 7; p++) for (int w = 0; w <= 5; w++) seen.add("place(" + p + ", " + w + ")", x.place(p, w));
    for (int c = 0; c < 4; c++) for (int w = 0; w <= 3; w++) seen.add("court(" + c + ", " + w + ")", x.court(c, w));
    for (int k = 0; k < 3; k++) for (int w = 0; w <= 2; w++) seen.add("crop(" + k + ", " + w + ")", x.crop(k, w));
    for (int c = 0; c < 4; c++) for (int p = 0; p < 7; p++) seen.add("belief(" + c + ", " + p + ")", x.belief(c, p));
    for (int c = 0; c < 4; c++) for (int p = 0; p < 7; p++) seen.add("worth(" + c + ", " + p + ")", x.worth(c, p));
    for (int i = 0; i < 8; i++) seen.add("lies(" + i + ")", x.lies(i));
    for (int k = -1; k < 9; k++) seen.add("fits(" + k + ")", x.fits(k));
    for (int p = 0; p < 7; p++) seen.add("grown(" + p + ", 9)", x.grown(p, 9));
    for (int part = 0; part < 2; part++) seen.add("odds(1, " + part + ")", x.odds(1, part));
  }

  private static void seeShortly(SpiceSwaps x, Seen seen, String when) {
    for (int w = 3; w <= 8; w++) seen.add(when + "about(" + w + ")", x.about(w));
    for (int c = 0; c < 4; c++) for (int w = 0; w <= 1; w++) seen.add(when + "court(" + c + ", " + w + ")", x.court(c, w));
    for (int k = 0; k < 3; k++) seen.add(when + "crop(" + k + ", 2)", x.crop(k, 2));
    for (int p = 0; p < 7; p++) seen.add(when + "place(" + p + ", 1)", x.place(p, 1));
  }

  private static void seeUndone(SpiceSwaps x, Seen seen) {
    for (int i = 0; i < 6; i++) {
      seen.add("undo() " + i, bit(x.undo()));
      seeShortly(x, seen, "behind undo() " + i + ": ");
    }
  }

  private static void seeRedone(SpiceSwaps x, Seen seen) {
    for (int i = 0; i < 4; i++) {
      seen.add("redo() " + i, bit(x.redo()));
      seeShortly(x, seen, "behind redo() " + i + ": ");
    }
  }

  private static void seeBoxes(SpiceSwaps x, Seen seen) {
    for (int box = 0; box < 3; box++) {
      seen.add("back(" + box + ")", x.back(box));
      seeShortly(x, seen, "behind back(" + box + "): ");
    }
  }

  private static void seeTape(SpiceSwaps x, Seen seen) {
    seen.add("world()", x.world());
    seeNow(x, seen);
  }

  private static List<String> seen(View view, SpiceSwaps x) {
    Seen seen = new Seen();
    view.of(x, seen);
    return seen.lines;
  }

  /** The call answers so, and behind it every other answer is the same as that of an object without the call. */
  static void refused(int promise, String what, Made made, Call call, long answer) {
    due(promise, what, call.on(made.make()), answer);
    changesOnly(promise, what, made, call);
  }

  /** Behind the call every answer is the same as that of an object without it, but for those that begin so. */
  static void changesOnly(int promise, String what, Made made, Call call, String... but) {
    for (View view : VIEWS) {
      SpiceSwaps x = made.make();
      call.on(x);
      List<String> got = seen(view, x);
      List<String> want = seen(view, made.make());
      for (int i = 0; i < want.size(); i++) {
        boolean isMeant = false;
        for (String head : but) isMeant |= want.get(i).startsWith(head);
        if (!isMeant && !got.get(i).equals(want.get(i))) {
          due(promise, what + " does nothing, but " + got.get(i) + ", without it " + want.get(i), 1, 0);
          return;
        }
      }
    }
    due(promise, what + " does nothing", 1, 1);
  }

  /** The call with each number that can't be, where there are so many of a sort (as about numbers it), in every object. */
  static void beyond(int promise, String what, int sort, IndexedCall call, long answer) {
    for (Made made : ALL) {
      for (int i : outside(made.make().about(sort))) refused(promise, what + " of " + i, made, x -> call.on(x, i), answer);
    }
  }

  /** The call with each number that can't be, where 0 and those up to a bound can. */
  static void from(int bound, int promise, String what, IndexedCall call, long answer) {
    for (Made made : ALL) {
      for (int i : outside(bound)) refused(promise, what + " of " + i, made, x -> call.on(x, i), answer);
    }
  }

  /** Numbers that can't be where there are so many: those next to the first and the last one, and the farthest. */
  static int[] outside(int count) {
    return new int[] {-1, count, count + 1, -2, LOW, HIGH, LOW + 1, HIGH - 1, 1 << 16, LOW + count, count + 256, -count - 1};
  }

  /** To be called last: each of these promises had a test. */
  static void end(String name, int first, int last) {
    for (int promise = first; promise <= last; promise++) Due.due(promise, "looked at by " + name, Due.looked(promise) > 0, true);
    Due.end(name);
  }
}
