/** ==== 4.: every sentence on what lies there, what is SAID, times, images and about that names a boundary case (promises 35 to 46). */
public final class EdgeSaidTest {
  private static final int NONE = Edge.NONE;
  private static final String TWO = "court a gold 0;court b gold 0;";

  public static void main(String[] args) {
    liesAsked();
    liesUntilTheNext();
    yieldsTold();
    harboursTold();
    holdsTold();
    growsTold();
    thirtyAtMost();
    untold();
    laterBy();
    laterLimit();
    knownAt();
    untoldAtTheSame();
    timeStays();
    fitsNow();
    askedOf();
    askFirst();
    askLeft();
    imageBoxes();
    backToNothing();
    backToAll();
    noActsThen();
    aboutAsked();
    aboutEach();
    constants();
    Edge.end("EdgeSaidTest", 35, 46);
  }

  // ---- what lies there

  private static void liesAsked() {
    Edge.sentence("The i-th number of what lies there; -2 if there is none such.");
    for (Edge.Made made : Edge.ALL) {
      for (int i : Edge.outside(made.make().about(12))) Edge.refused(35, "lies(" + i + ")", made, x -> x.lies(i), -2);
    }
    SpiceSwaps x = new SpiceSwaps();
    Edge.due(35, "lies(0) at first", x.lies(0), -2);
    StringBuilder text = new StringBuilder(TWO);
    for (int p = 0; p < 7; p++) {
      text.append("place ").append((char) ('p' + p)).append(" of a yield 1;believes b ").append((char) ('p' + p)).append(p % 2 == 0 ? " 200;" : " 100;");
      SpiceSwaps y = Due.told(text.toString());
      y.dear();
      Edge.due(46, "as many as places", y.about(12), p + 1);
      Edge.due(35, "the first", y.lies(0), 1);
      Edge.due(35, "the last", y.lies(p), p % 2 == 0 ? 1 : 0);
      Edge.due(35, "behind the last", y.lies(p + 1), -2);
      Edge.due(35, "ahead of the first", y.lies(-1), -2);
    }
  }

  private static void liesUntilTheNext() {
    Edge.sentence("numbers that lie there.");
    SpiceSwaps x = Due.told("court a gold 0;court b gold 0;court c gold 0;place p of a yield 1;place q of b yield 1;");
    Edge.due(46, "none at first", x.about(12), 0);
    x.dear();
    Edge.due(46, "as many as places", x.about(12), 2);
    x.ring();
    Edge.due(46, "as many as courts", x.about(12), 3);
    x.haggle();
    Edge.due(46, "as many as places again", x.about(12), 2);
    x.cede(0, 1);
    x.year();
    x.undo();
    x.image(0);
    x.back(0);
    Edge.due(46, "acts take none away", x.about(12), 2);
    Edge.due(35, "they stay as they were", x.lies(0), 0);
    Edge.due(23, "no ring", x.ring(), Edge.GAP);
    Edge.due(46, "behind GAP: nothing", x.about(12), 0);
    Edge.due(35, "behind GAP: nothing", x.lies(0), -2);
  }

  // ---- what is said

  private static final String PLACES = TWO + "crop n price 1;crop m price 1;place p of a yield 0 harbour grows n;place q of b yield 50;place r of a yield 98 grows m;place s of b yield 99 harbour;";

  private static void yieldsTold() {
    Edge.sentence("That its yield is so much (0 .. 99) at least, or is not: its number; NONE, doing nothing, if one can't be, or there are 30.");
    Edge.from(100, 36, "yields", (x, i) -> x.yields(i, true), NONE);
    Edge.from(100, 36, "yields, not", (x, i) -> x.yields(i, false), NONE);
    int[][] rows = {{0, 15}, {1, 14}, {50, 14}, {51, 12}, {98, 12}, {99, 8}};
    for (int[] row : rows) {
      SpiceSwaps x = Due.told(PLACES);
      Edge.due(36, "yields(" + row[0] + ", true)", x.yields(row[0], true), 0);
      Edge.due(42, row[0] + " at least", x.fits(0), row[1]);
      SpiceSwaps y = Due.told(PLACES);
      Edge.due(36, "yields(" + row[0] + ", false)", y.yields(row[0], false), 0);
      Edge.due(42, "not " + row[0] + " at least", y.fits(0), 15 - row[1]);
    }
  }

  private static void harboursTold() {
    Edge.sentence("That it has a harbour, or has not: its number; NONE, doing nothing, if there are 30.");
    SpiceSwaps x = Due.told(PLACES);
    Edge.due(37, "the first", x.harbours(true), 0);
    Edge.due(42, "with one", x.fits(0), 9);
    Edge.due(37, "the second", x.harbours(false), 1);
    Edge.due(42, "with one and without one", x.fits(0), 0);
    x.untell(0);
    Edge.due(42, "without one", x.fits(0), 6);
  }

  private static void holdsTold() {
    Edge.sentence("That a COURT holds it, or does not: its number; NONE, doing nothing, if one can't be, or there are 30.");
    Edge.beyond(38, "holds", 1, (x, i) -> x.holds(i, true), NONE);
    Edge.beyond(38, "holds, not", 1, (x, i) -> x.holds(i, false), NONE);
    int[] due = {5, 10};
    for (int c = 0; c < 2; c++) {
      SpiceSwaps x = Due.told(PLACES);
      Edge.due(38, "holds(" + c + ", true)", x.holds(c, true), 0);
      Edge.due(42, "held by " + c, x.fits(0), due[c]);
      SpiceSwaps y = Due.told(PLACES);
      Edge.due(38, "holds(" + c + ", false)", y.holds(c, false), 0);
      Edge.due(42, "not held by " + c, y.fits(0), 15 - due[c]);
    }
    Edge.due(38, "the last court of four", Due.told(Edge.FULL).holds(3, true), 0);
  }

  private static void growsTold() {
    Edge.sentence("That it grows a CROP, or does not: its number; NONE likewise.");
    Edge.beyond(39, "grows", 2, (x, i) -> x.grows(i, true), NONE);
    Edge.beyond(39, "grows, not", 2, (x, i) -> x.grows(i, false), NONE);
    int[] due = {1, 4};
    for (int k = 0; k < 2; k++) {
      SpiceSwaps x = Due.told(PLACES);
      Edge.due(39, "grows(" + k + ", true)", x.grows(k, true), 0);
      Edge.due(42, "growing " + k, x.fits(0), due[k]);
      SpiceSwaps y = Due.told(PLACES);
      Edge.due(39, "grows(" + k + ", false)", y.grows(k, false), 0);
      Edge.due(42, "not growing " + k + ", or none", y.fits(0), 15 - due[k]);
    }
    Edge.due(39, "the last crop of three", Due.told(Edge.FULL).grows(2, true), 0);
  }

  private static void thirtyAtMost() {
    Edge.sentence("SAID, 30 at most, is TOLD at a TIME");
    Edge.Call[] tells = {x -> x.yields(0, true), x -> x.harbours(true), x -> x.holds(1, false), x -> x.grows(1, false)};
    for (int sort = 0; sort < 4; sort++) {
      Edge.Call last = tells[sort];
      Edge.Made thirty = () -> {
        SpiceSwaps x = Due.told(PLACES);
        for (int i = 0; i < 30; i++) tells[i % 4].on(x);
        return x;
      };
      Edge.Made twentyNine = () -> {
        SpiceSwaps x = Due.told(PLACES);
        for (int i = 0; i < 29; i++) Edge.due(37, "said " + i, tells[i % 4].on(x), i);
        return x;
      };
      SpiceSwaps x = twentyNine.make();
      Edge.due(36 + sort, "the 30th", last.on(x), 29);
      Edge.due(46, "30 are said", x.about(8), 30);
      Edge.refused(36 + sort, "the 31st", thirty, last, NONE);
      Edge.Made untold = () -> {
        SpiceSwaps y = thirty.make();
        for (int i = 0; i < 30; i++) y.untell(i);
        y.later(1);
        return y;
      };
      Edge.refused(36 + sort, "the 31st, when all are untold", untold, last, NONE);
    }
    // A world told anew begins at 0 again.
    SpiceSwaps x = Due.told(PLACES);
    for (int i = 0; i < 31; i++) x.harbours(true);
    Due.tape(x, PLACES);
    x.world();
    for (int i = 0; i < 30; i++) Edge.due(37, "said " + i + " anew", x.harbours(false), i);
    Edge.due(37, "the 31st anew", x.harbours(false), NONE);
  }

  private static void untold() {
    Edge.sentence("It is UNTOLD: true; false if it is so already, or there is none such.");
    Edge.beyond(40, "untell", 8, (x, i) -> Edge.bit(x.untell(i)), 0);
    Edge.refused(40, "untell of what is untold", Edge::busy, x -> Edge.bit(x.untell(0)), 0);
    Edge.Made laterOn = () -> {
      SpiceSwaps x = Edge.busy();
      x.untell(1);
      x.later(1);
      return x;
    };
    Edge.refused(40, "untell of what is untold earlier", laterOn, x -> Edge.bit(x.untell(1)), 0);
    SpiceSwaps x = Due.told(PLACES);
    Edge.due(40, "nothing is said", x.untell(0), false);
    for (int i = 0; i < 30; i++) x.harbours(true);
    Edge.due(40, "the last of 30", x.untell(29), true);
    Edge.due(40, "the first of 30", x.untell(0), true);
    Edge.due(40, "beyond 30", x.untell(30), false);
    Edge.due(46, "what is said stays said", x.about(8), 30);
  }

  // ---- times

  private static void laterBy() {
    Edge.sentence("So much later (0 .. 1000): the TIME; NONE, doing nothing, for another number, or if it would be above 100,000.");
    Edge.from(1001, 41, "later", (x, i) -> x.later(i), NONE);
    SpiceSwaps x = new SpiceSwaps();
    Edge.due(46, "0 at first", x.about(9), 0);
    Edge.due(41, "later(0)", x.later(0), 0);
    Edge.due(41, "later(1)", x.later(1), 1);
    Edge.due(41, "later(999)", x.later(999), 1000);
    Edge.due(41, "later(1000)", x.later(1000), 2000);
    Edge.due(46, "the time", x.about(9), 2000);
  }

  private static void laterLimit() {
    Edge.Made late = () -> {
      SpiceSwaps x = Due.told(PLACES);
      for (int i = 0; i < 99; i++) x.later(1000);
      x.later(500);
      x.harbours(true);
      return x;
    };
    for (int by : new int[] {501, 502, 999, 1000, 1001, Edge.HIGH}) Edge.refused(41, "later(" + by + ") at 99,500", late, x -> x.later(by), NONE);
    SpiceSwaps x = late.make();
    Edge.due(41, "up to 99,999", x.later(499), 99999);
    Edge.due(41, "2 more", x.later(2), NONE);
    Edge.due(41, "up to 100,000", x.later(1), 100000);
    Edge.due(41, "1 more", x.later(1), NONE);
    Edge.due(41, "by 0", x.later(0), 100000);
    Edge.due(37, "said at the last time", x.harbours(false), 1);
    Edge.due(42, "known at the last time", x.fits(100000), 0);
    Edge.due(42, "not ahead of it", x.fits(99999), 9);
    Edge.due(42, "nor ahead of the other", x.fits(99499), 15);
    Edge.due(42, "known beyond the last time", x.fits(Edge.HIGH), 0);
    SpiceSwaps y = late.make();
    Edge.due(41, "500 more", y.later(500), 100000);
  }

  private static void knownAt() {
    Edge.sentence("As known at k that counts that was TOLD at k or before, not UNTOLD at k or before.");
    SpiceSwaps x = Due.told(PLACES);
    x.later(10);
    x.harbours(true);
    x.later(10);
    x.untell(0);
    int[][] rows = {{Edge.LOW, 15}, {-1, 15}, {0, 15}, {9, 15}, {10, 9}, {11, 9}, {19, 9}, {20, 15}, {21, 15}, {Edge.HIGH, 15}};
    for (int[] row : rows) Edge.due(42, "fits(" + row[0] + ")", x.fits(row[0]), row[1]);
    // Two times alike: told at 20 again, it counts at 20 though the other does not.
    Edge.due(37, "told again", x.harbours(true), 1);
    Edge.due(42, "at 20", x.fits(20), 9);
    Edge.due(42, "at 19", x.fits(19), 9);
    x.later(1);
    x.untell(1);
    Edge.due(42, "at 21", x.fits(21), 15);
    Edge.due(42, "at 20 as ahead", x.fits(20), 9);
    SpiceSwaps first = Due.told(PLACES);
    first.harbours(true);
    Edge.due(42, "told at 0, known at 0", first.fits(0), 9);
    Edge.due(42, "told at 0, known at -1", first.fits(-1), 15);
    for (int k : new int[] {Edge.LOW, -1, 0, 1, Edge.HIGH}) {
      for (Edge.Made made : Edge.ALL) {
        Edge.changesOnly(42, "fits(" + k + ")", made, y -> y.fits(k));
        Edge.changesOnly(43, "ask(0, " + k + ")", made, y -> y.ask(0, k));
      }
    }
  }

  private static void untoldAtTheSame() {
    Edge.sentence("UNTOLD at a later one or the same");
    SpiceSwaps x = Due.told(PLACES);
    x.later(5);
    x.harbours(true);
    Edge.due(40, "untold at the same time", x.untell(0), true);
    for (int k : new int[] {4, 5, 6}) Edge.due(42, "it never counts: " + k, x.fits(k), 15);
    SpiceSwaps y = Due.told(PLACES);
    y.later(5);
    y.harbours(true);
    y.later(1);
    Edge.due(40, "untold one later", y.untell(0), true);
    Edge.due(42, "at 5", y.fits(5), 9);
    Edge.due(42, "at 6", y.fits(6), 15);
  }

  private static void timeStays() {
    Edge.sentence("(0 at first, goes on)");
    SpiceSwaps x = Edge.busy();
    Edge.due(46, "the time", x.about(9), 7);
    x.world();
    Edge.due(46, "the time behind a world", x.about(9), 7);
    x.harbours(false);
    Edge.due(42, "told at 7, known at 6", x.fits(6), 1);
    Edge.due(42, "told at 7, known at 7", x.fits(7), 1);
    x.harbours(true);
    Edge.due(42, "both, known at 6", x.fits(6), 1);
    Edge.due(42, "both, known at 7", x.fits(7), 0);
  }

  // ---- fits, ask

  private static void fitsNow() {
    Edge.sentence("FIT: PLACES of which all that counts is so now.");
    Edge.due(42, "no places", new SpiceSwaps().fits(0), 0);
    Edge.due(42, "nothing is said", Due.told(PLACES).fits(0), 15);
    Edge.due(42, "seven places", Due.told(Edge.FULL).fits(0), 127);
    SpiceSwaps x = Due.told(PLACES + "grow 1;");
    x.yields(99, true);
    Edge.due(42, "99 at least", x.fits(0), 8);
    x.year();
    Edge.due(42, "grown by 1", x.fits(0), 12);
    x.holds(1, true);
    Edge.due(42, "of b", x.fits(0), 8);
    x.cede(2, 1);
    Edge.due(42, "ceded to b", x.fits(0), 12);
    x.grows(1, true);
    Edge.due(42, "growing m", x.fits(0), 4);
    x.carry(1, 3);
    Edge.due(42, "carried there", x.fits(0), 12);
    x.undo();
    x.undo();
    x.undo();
    Edge.due(42, "all taken back", x.fits(0), 0);
  }

  private static void askedOf() {
    Edge.sentence("ASK what 0: which (0 .. 2), 1: how many are left at the most; NONE if none FITS, or for another what.");
    Edge.from(2, 43, "ask", (x, i) -> x.ask(i, 0), NONE);
    Edge.from(2, 43, "ask", (x, i) -> x.ask(i, 7), NONE);
    Edge.refused(43, "ask of no places", Edge::empty, x -> x.ask(0, 0), NONE);
    Edge.refused(43, "ask of no places", Edge::empty, x -> x.ask(1, 0), NONE);
    Edge.Made none = () -> {
      SpiceSwaps x = Edge.full();
      x.later(1);
      x.harbours(true);
      x.harbours(false);
      return x;
    };
    Edge.refused(43, "ask when none fits", none, x -> x.ask(0, 8), NONE);
    Edge.refused(43, "ask when none fits", none, x -> x.ask(1, 8), NONE);
    Edge.due(43, "one time ahead some fit", none.make().ask(1, 7) > 0, true);
    SpiceSwaps one = Due.told("court a gold 0;place p of a yield 1;");
    Edge.due(43, "one alone: which", one.ask(0, 0), 0);
    Edge.due(43, "one alone: left", one.ask(1, 0), 1);
  }

  /** Places of a court, with or without a harbour, growing n, m or none. */
  private static SpiceSwaps asked(String... places) {
    StringBuilder text = new StringBuilder("court a gold 0;court b gold 0;court c gold 0;court d gold 0;crop n price 1;crop m price 1;crop o price 1;");
    for (int p = 0; p < places.length; p++) {
      text.append("place ").append((char) ('p' + p)).append(" of ").append(places[p].charAt(0)).append(" yield 1");
      if (places[p].charAt(1) == 'h') text.append(" harbour");
      if (places[p].charAt(2) != '-') text.append(" grows ").append(places[p].charAt(2));
      text.append(';');
    }
    return Due.told(text.toString());
  }

  private static void ask(String what, SpiceSwaps x, int which, int left) {
    Edge.due(43, what + ": which", x.ask(0, 0), which);
    Edge.due(43, what + ": left", x.ask(1, 0), left);
  }

  private static void askFirst() {
    Edge.sentence("would leave the fewest of these at the most; of like ones the first.");
    ask("all three tell nothing", asked("a--", "a--"), 0, 2);
    ask("all three tell all", asked("ah-", "b-n"), 0, 1);
    ask("the second and the third tell all", asked("a--", "b-n"), 1, 1);
    ask("the third alone tells all", asked("a--", "a-n"), 2, 1);
    ask("the second alone tells all", asked("a--", "b--"), 1, 1);
    ask("the first alone tells all", asked("ah-", "a--"), 0, 1);
    ask("the first and the third tell alike", asked("ahn", "ah-", "a-n", "a--"), 0, 2);
    ask("the second tells one more", asked("ahn", "bh-", "c-n", "d--"), 1, 1);
    ask("the third tells one more than the second", asked("ahn", "ahm", "bho", "bh-"), 2, 1);
    ask("the second and the third tell alike", asked("ahn", "ahm", "bhn", "bhm"), 1, 2);
  }

  private static void askLeft() {
    Edge.sentence("harbour or not (0), which COURT holds it (1), which CROP, or none, it grows (2)");
    ask("none is an answer, too", asked("a--", "a--", "a-n", "a-m", "a-o"), 2, 2);
    ask("seven of one sort", asked("a--", "a--", "a--", "a--", "a--", "a--", "a--"), 0, 7);
    ask("four courts", asked("a--", "b--", "c--", "d--", "a--", "b--", "c--"), 1, 2);
    ask("without a harbour most", asked("ahn", "a-n", "a-n"), 0, 2);
    ask("with a harbour most", asked("a-n", "ahn", "ahn"), 0, 2);
    // Only of those that fit.
    SpiceSwaps x = asked("a--", "a--", "bh-", "b--");
    ask("all four", x, 1, 2);
    x.holds(1, true);
    ask("of b alone", x, 0, 1);
    // As it is now, not as it was told.
    SpiceSwaps y = asked("a--", "a-n");
    y.carry(0, 0);
    ask("both grow it now", y, 0, 2);
    y.cede(0, 1);
    ask("two courts hold them now", y, 1, 1);
  }

  // ---- images

  private static void imageBoxes() {
    Edge.sentence("are kept in a BOX 0 .. 2: the year; NONE if there is none such.");
    Edge.from(3, 44, "image", (x, i) -> x.image(i), NONE);
    for (int box = 0; box < 3; box++) {
      SpiceSwaps x = Due.told(PLACES);
      x.year();
      Edge.due(44, "image(" + box + ")", x.image(box), 1);
      for (int other = 0; other < 3; other++) Edge.due(45, "back(" + other + ")", x.back(other), other == box ? 1 : NONE);
    }
    // Each box by itself, and a box that is kept anew has the newer alone.
    SpiceSwaps x = Due.told(PLACES);
    for (int box = 0; box < 3; box++) {
      Edge.due(44, "image(" + box + ")", x.image(box), box);
      x.year();
    }
    for (int box = 0; box < 3; box++) Edge.due(45, "back(" + box + ")", x.back(box), box);
    x.image(0);
    Edge.due(45, "kept anew", x.back(0), 2);
    Edge.due(45, "another box stays", x.back(1), 1);
    // Keeping changes nothing but the box.
    for (Edge.Made made : Edge.ALL) Edge.changesOnly(44, "image(1)", made, y -> y.image(1), "back(1)", "behind back(1)");
  }

  private static void backToNothing() {
    Edge.sentence("All is as it was kept (no ACTS are kept then): the year; NONE, doing nothing, if nothing was.");
    Edge.from(3, 45, "back", (x, i) -> x.back(i), NONE);
    Edge.refused(45, "back to an empty box", Edge::busy, x -> x.back(1), NONE);
    for (int box = 0; box < 3; box++) {
      int b = box;
      Edge.refused(45, "back(" + box + ") of a new object", Edge::empty, x -> x.back(b), NONE);
      Edge.Made anew = () -> {
        SpiceSwaps x = Edge.full();
        x.image(b);
        x.world();
        x.year();
        return x;
      };
      Edge.refused(45, "back(" + box + ") behind another world", anew, x -> x.back(b), NONE);
    }
  }

  private static void backToAll() {
    Edge.sentence("Who holds what, yields, CROPS, gold, the year, the SEED are kept in a BOX 0 .. 2");
    SpiceSwaps x = Due.told(Edge.FULL);
    x.year();
    x.swap(0, 3);
    x.carry(1, 5);
    x.cede(6, 3);
    int[] kept = all(x);
    x.image(1);
    for (int i = 0; i < 5; i++) {
      x.year();
      x.cede(i, (i + 1) % 4);
      x.carry(i % 3, 2);
      x.carry(i % 3, 5);
    }
    x.later(3);
    x.harbours(true);
    x.dear();
    int lying = x.lies(0);
    x.feed(1, 2, 3, 4, 5);
    Edge.due(45, "back", x.back(1), 1);
    int[] then = all(x);
    for (int i = 0; i < kept.length; i++) Edge.due(45, "as it was kept: " + i, then[i], kept[i]);
    Edge.due(45, "what is said stays", x.about(8), 1);
    Edge.due(45, "the time stays", x.about(9), 3);
    Edge.due(45, "the tape stays", x.about(10), 20);
    Edge.due(45, "what lies there stays", x.lies(0), lying);
    Edge.due(45, "the box stays", x.back(1), 1);
    x.year();
    Edge.due(45, "and stays, when a year is gone on from it", x.back(1), 1);
    // An image of an empty world, and of year 0.
    SpiceSwaps empty = new SpiceSwaps();
    Edge.due(44, "image of an empty world", empty.image(2), 0);
    empty.year();
    Edge.due(45, "back to it", empty.back(2), 0);
    Edge.due(45, "its seed", empty.about(4), 0);
  }

  private static int[] all(SpiceSwaps x) {
    int[] all = new int[7 * 3 + 4 + 2];
    for (int p = 0; p < 7; p++) for (int w = 0; w < 3; w++) all[3 * p + w] = x.place(p, w);
    for (int c = 0; c < 4; c++) all[21 + c] = x.court(c, 0);
    all[25] = x.about(3);
    all[26] = x.about(4);
    return all;
  }

  private static void noActsThen() {
    Edge.sentence("(no ACTS are kept then)");
    SpiceSwaps x = Edge.busy();
    Edge.due(46, "to be undone ahead of it", x.about(6) > 0, true);
    Edge.due(46, "to be redone ahead of it", x.about(7) > 0, true);
    x.back(0);
    Edge.due(46, "to be undone", x.about(6), 0);
    Edge.due(46, "to be redone", x.about(7), 0);
    Edge.due(15, "undo", x.undo(), false);
    Edge.due(16, "redo", x.redo(), false);
    x.year();
    Edge.due(46, "an act behind it", x.about(6), 1);
    Edge.due(15, "undo of it", x.undo(), true);
    Edge.due(15, "and no more", x.undo(), false);
    // As many as ever can be kept behind it.
    x.back(0);
    for (int i = 0; i < 41; i++) x.year();
    Edge.due(46, "40 again", x.about(6), 40);
  }

  // ---- about

  private static void aboutAsked() {
    Edge.sentence("12: numbers that lie there. NONE for another what.");
    Edge.from(13, 46, "about", (x, i) -> x.about(i), NONE);
    for (Edge.Made made : Edge.ALL) {
      for (int what = 0; what < 13; what++) {
        int w = what;
        Edge.changesOnly(46, "about(" + w + ")", made, x -> x.about(w));
      }
    }
  }

  private static void aboutEach() {
    Edge.sentence("What 0: PLACES, 1: COURTS, 2: CROPS, 3: the year, 4: the SEED, 5: all yields, 6: ACTS that can be undone, 7: redone, 8: what is SAID,"
        + " 9: the TIME, 10: bytes on the TAPE, 11: units");
    SpiceSwaps empty = new SpiceSwaps();
    for (int w = 0; w < 13; w++) Edge.due(46, "about(" + w + ") of a new object", empty.about(w), 0);
    SpiceSwaps x = Edge.full();
    // Units: belief * (1 + yield) % 97 are five, 3 - yield % 5 three; 44 bytes are on the tape.
    int[] due = {7, 4, 3, 1, 934, -1, 3, 2, 3, 7, 44, 8, 7};
    for (int w = 0; w < 13; w++) if (w != 5) Edge.due(46, "about(" + w + ")", x.about(w), due[w]);
    int yields = 0;
    for (int p = 0; p < 7; p++) yields += x.place(p, 1);
    Edge.due(46, "all yields", x.about(5), yields);
    StringBuilder text = new StringBuilder("court a gold 0;");
    for (int p = 0; p < 7; p++) text.append("place ").append((char) ('p' + p)).append(" of a yield 99;");
    Edge.due(46, "the most of yields", Due.told(text.toString()).about(5), 693);
  }

  private static void constants() {
    Edge.sentence("`NONE = -1`: There is none.");
    Edge.due(1, "NONE", SpiceSwaps.NONE, -1);
    Edge.sentence("`GAP = -1000000000`: No number is there.");
    Edge.due(1, "GAP", SpiceSwaps.GAP, -1000000000);
  }
}
