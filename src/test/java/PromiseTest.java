/** Each promise with ordinary inputs, the edges that the document names, and wrong inputs; worked out by hand. */
public final class PromiseTest {
  private static final int NONE = -1;
  private static final int GAP = -1000000000;

  // EARNED: p 10*4/2-3 = 17, q 7*4/2 = 14, r 6, s 9*3-20 = 7, t 0.
  // WORTH to a: 10 10 6 9 0, to b: 5 7 6 9 0, to c: 10 7 12 9 0.
  private static final String A = "court a gold 5;court b gold 0;court c gold 9;crop mace price 4;crop clove price 3;"
      + "place p of a yield 10 harbour grows mace garrison 3;place q of b yield 7 grows mace;place r of b yield 6 harbour;"
      + "place s of c yield 9 grows clove garrison 20;place t of a yield 0;"
      + "believes a q 150;believes b p 50;believes c r 200;";

  public static void main(String[] args) {
    newObject();
    tape();
    worlds();
    whatIsSo();
    worths();
    swapAndCede();
    carry();
    years();
    storms();
    undoAndRedo();
    gainsAndSwaps();
    haggling();
    enviesAndPorts();
    rings();
    dearAndMisheld();
    dividing();
    lots();
    seedsAndLeaks();
    lookingAhead();
    odds();
    secrets();
    times();
    asking();
    images();
    about();
    toldAnew();
    fullWorld();
    Due.end("PromiseTest");
  }

  private static void due(int promise, String what, long got, long want) {
    Due.due(promise, what, got, want);
  }

  private static void due(int promise, String what, boolean got, boolean want) {
    Due.due(promise, what, got, want);
  }

  private static void lies(int promise, String what, SpiceSwaps x, int... want) {
    due(46, what + ": numbers that lie there", x.about(12), want.length);
    for (int i = 0; i < want.length; i++) due(promise, what + ": lies(" + i + ")", x.lies(i), want[i]);
    due(35, what + ": behind the last", x.lies(want.length), -2);
    due(35, what + ": lies(-1)", x.lies(-1), -2);
    due(35, what + ": lies of a high number", x.lies(Integer.MAX_VALUE), -2);
    due(35, what + ": lies of a low number", x.lies(Integer.MIN_VALUE), -2);
  }

  private static void newObject() {
    SpiceSwaps x = new SpiceSwaps();
    for (int i = 0; i <= 12; i++) due(1, "about(" + i + ") of a new object", x.about(i), 0);
    due(1, "fault(0) of a new object", x.fault(0), 0);
    due(1, "fault(1) of a new object", x.fault(1), NONE);
    lies(1, "a new object", x);
    due(1, "undo of a new object", x.undo(), false);
    due(1, "redo of a new object", x.redo(), false);
    due(1, "back of a new object", x.back(0), NONE);
    due(1, "fits of a new object", x.fits(0), 0);
    due(1, "year of an empty world", x.year(), 0);
    due(1, "odds of an empty world", x.odds(0, 1), NONE);
  }

  private static void tape() {
    SpiceSwaps x = new SpiceSwaps();
    // "cour" "t ca" " gol" "d 7;" and blanks: the highest byte of each number comes first.
    due(2, "feed", x.feed(0x636f7572, 0x74206361, 0x20676f6c, 0x6420373b, 0x20202020), 20);
    due(2, "world of what was fed", x.world(), 0);
    due(2, "gold as fed", x.court(0, 0), 7);
    for (int i = 1; i <= 80; i++) due(2, "feed " + i, x.feed(-1, -1, -1, -1, -1), 20 * i);
    due(2, "feed beyond 1,600", x.feed(0, 0, 0, 0, 0), NONE);
    due(2, "the tape then", x.about(10), 1600);
    due(3, "end(1601)", x.end(1601), NONE);
    due(3, "end(-1)", x.end(-1), NONE);
    due(3, "end(1600)", x.end(1600), 1600);
    due(3, "end(1581)", x.end(1581), 1581);
    due(2, "feed with room for 19", x.feed(0, 0, 0, 0, 0), NONE);
    due(3, "the tape stays", x.about(10), 1581);
    due(3, "end(1580)", x.end(1580), 1580);
    due(2, "feed with room for 20", x.feed(0, 0, 0, 0, 0), 1600);
    due(3, "end(7)", x.end(7), 7);
    due(3, "end(8) of 7", x.end(8), NONE);
    due(3, "end of a low number", x.end(Integer.MIN_VALUE), NONE);
    due(3, "the tape has 7", x.about(10), 7);
    due(4, "world of bytes that are no text", x.world(), NONE);
    due(5, "its fault", x.fault(0), 1);
    due(5, "its place", x.fault(1), 0);
    due(3, "end(0)", x.end(0), 0);
    due(4, "an empty world", x.world(), 0);
    due(4, "without courts", x.about(1), 0);
  }

  private static void worlds() {
    SpiceSwaps x = Due.told(A);
    due(4, "places", x.about(0), 5);
    due(4, "the tape is empty then", x.about(10), 0);
    due(5, "fault(0)", x.fault(0), 0);
    due(5, "fault(1)", x.fault(1), NONE);
    due(5, "fault(2)", x.fault(2), NONE);
    due(5, "fault(-1)", x.fault(-1), NONE);
    x.later(5);
    x.year();
    x.cede(0, 1);
    x.undo();
    x.harbours(true);
    x.dear();
    x.image(2);
    Due.tape(x, "court x gold 1;court");
    due(4, "a fault", x.world(), NONE);
    due(5, "fault(0) of it", x.fault(0), 2);
    due(5, "fault(1) of it", x.fault(1), 20);
    due(4, "the tape stays", x.about(10), 20);
    due(4, "the world stays", x.about(0), 5);
    due(4, "the year stays", x.about(3), 1);
    due(4, "acts stay", x.about(6), 1);
    due(4, "what can be redone stays", x.about(7), 1);
    due(4, "what is said stays", x.about(8), 1);
    due(4, "what lies there stays", x.about(12), 5);
    due(4, "gold stays", x.court(0, 0), 22);
    x.end(15);
    due(4, "another world", x.world(), 0);
    due(5, "fault(0) again", x.fault(0), 0);
    due(5, "fault(1) again", x.fault(1), NONE);
    int[] want = {0, 1, 0, 0, 0, 0, 0, 0, 0, 5, 0, 0, 0};
    for (int i = 0; i < want.length; i++) due(4, "about(" + i + ") of another world", x.about(i), want[i]);
    due(4, "boxes are empty", x.back(2), NONE);
    due(4, "gold as told", x.court(0, 0), 1);
    due(4, "no more courts", x.court(1, 0), GAP);
    // A world told again is as it was told, whatever stood there before.
    Due.tape(x, A);
    x.world();
    due(4, "beliefs not told before", x.belief(0, 0), 100);
    Due.tape(x, "court a gold 0;place p of a yield 1;");
    x.world();
    due(4, "a garrison of the world before is gone", x.place(0, 4), 0);
    due(4, "a harbour of the world before is gone", x.place(0, 3), 0);
    due(4, "a crop of the world before is gone", x.place(0, 2), NONE);
  }

  private static void whatIsSo() {
    SpiceSwaps x = Due.told(A);
    int[][] places = {{0, 10, 0, 1, 3, 17}, {1, 7, 0, 0, 0, 14}, {1, 6, NONE, 1, 0, 6}, {2, 9, 1, 0, 20, 7}, {0, 0, NONE, 0, 0, 0}};
    for (int p = 0; p < places.length; p++) {
      for (int w = 0; w < 6; w++) due(6, "place(" + p + ", " + w + ")", x.place(p, w), places[p][w]);
    }
    due(6, "place(0, 6)", x.place(0, 6), GAP);
    due(6, "place(0, -1)", x.place(0, -1), GAP);
    due(6, "place(5, 0)", x.place(5, 0), GAP);
    due(6, "place(-1, 0)", x.place(-1, 0), GAP);
    int[][] courts = {{5, 17, 17, 10}, {0, 6, 20, 13}, {9, 8, 7, 9}};
    for (int c = 0; c < courts.length; c++) {
      for (int w = 0; w < 4; w++) due(7, "court(" + c + ", " + w + ")", x.court(c, w), courts[c][w]);
    }
    due(7, "court(0, 4)", x.court(0, 4), GAP);
    due(7, "court(0, -1)", x.court(0, -1), GAP);
    due(7, "court(3, 0)", x.court(3, 0), GAP);
    due(7, "court(-1, 0)", x.court(-1, 0), GAP);
    int[][] crops = {{4, 3, 3}, {3, 4, 8}};
    for (int k = 0; k < crops.length; k++) {
      for (int w = 0; w < 3; w++) due(8, "crop(" + k + ", " + w + ")", x.crop(k, w), crops[k][w]);
    }
    due(8, "crop(0, 3)", x.crop(0, 3), NONE);
    due(8, "crop(0, -1)", x.crop(0, -1), NONE);
    due(8, "crop(2, 0)", x.crop(2, 0), NONE);
    due(8, "crop(-1, 0)", x.crop(-1, 0), NONE);
    due(9, "belief(0, 1)", x.belief(0, 1), 150);
    due(9, "belief(1, 0)", x.belief(1, 0), 50);
    due(9, "belief(2, 2)", x.belief(2, 2), 200);
    due(9, "belief(2, 1)", x.belief(2, 1), 100);
    due(9, "belief(3, 0)", x.belief(3, 0), NONE);
    due(9, "belief(0, 5)", x.belief(0, 5), NONE);
    due(9, "belief(-1, 0)", x.belief(-1, 0), NONE);
    due(9, "belief(0, -1)", x.belief(0, -1), NONE);
    // The price of a crop is parted among courts, not places: with q at a, a alone grows mace.
    x.cede(1, 0);
    due(6, "EARNED of p with one grower", x.place(0, 5), 37);
    due(8, "growers", x.crop(0, 1), 1);
    due(8, "places still grow it", x.crop(0, 2), 3);
    SpiceSwaps y = Due.told("court a gold 0;court b gold 0;crop n price 9;crop m price 1;place p of a yield 1 grows n;place q of b yield 99 grows n garrison 20;");
    due(6, "EARNED is cut", y.place(0, 5), 4);
    due(6, "EARNED of much", y.place(1, 5), 445 - 20);
    due(8, "a crop that nobody grows", y.crop(1, 1), 0);
    due(8, "places without it", y.crop(1, 2), 0);
  }

  private static int worthBy(String formula) {
    return Due.told("court a gold 0;court b gold 0;crop n price 7;place p of b yield 40 harbour grows n garrison 6;place q of b yield 2;"
        + "believes a p 30;worth " + formula + ";").worth(0, 0);
  }

  private static void worths() {
    SpiceSwaps x = Due.told(A);
    int[][] w = {{10, 10, 6, 9, 0}, {5, 7, 6, 9, 0}, {10, 7, 12, 9, 0}};
    for (int c = 0; c < 3; c++) for (int p = 0; p < 5; p++) due(10, "worth(" + c + ", " + p + ")", x.worth(c, p), w[c][p]);
    due(10, "worth(3, 0)", x.worth(3, 0), GAP);
    due(10, "worth(0, 5)", x.worth(0, 5), GAP);
    due(10, "worth(-1, 0)", x.worth(-1, 0), GAP);
    due(10, "worth(0, -1)", x.worth(0, -1), GAP);
    Object[][] rows = {
      {"yield", 40}, {"belief", 30}, {"harbour", 1}, {"garrison", 6}, {"price", 7}, {"held", 0}, {"year", 0}, {"9", 9},
      {"0", 0}, {"0007", 7}, {"(3)", 3}, {"7 - 2 - 1", 4}, {"7 - (2 - 1)", 6}, {"2 + 3 * 4", 14}, {"(2 + 3) * 4", 20},
      {"20 / 3", 6}, {"20 % 3", 2}, {"(0 - 20) / 3", -6}, {"(0 - 20) % 3", -2}, {"20 / 0", 0}, {"20 % 0", 0}, {"20 / 3 * 3", 18},
      {"24 / 4 % 4", 2}, {"24 % 9 / 2", 3}, {"1 < 2", 1}, {"2 < 2", 0}, {"2 > 2", 0}, {"3 > 2", 1}, {"2 = 2", 1}, {"1 + 1 = 2", 1},
      {"not 0", 1}, {"not 5", 0}, {"not not 5", 1}, {"not 1 < 0", 1}, {"not 1 = 2 and 0", 0}, {"5 and 6", 1}, {"1 and 1", 1}, {"0 and 1", 0}, {"5 and 0", 0},
      {"0 or 6", 1}, {"0 or 0", 0}, {"1 or 1 and 0", 1}, {"(1 or 1) and 0", 0}, {"0 and 1 or 1", 1}, {"5", 5}, {"(0 - 5) and 1", 1},
      {"9999 * 9999", 99999}, {"0 - 9999 * 9999", -99999}, {"99 * 1010 + 9", 99999}, {"99 * 1010 + 10", 99999}, {"99 * 1010", 99990},
      // Wrapping: 50000 * 50000 is above what an int holds, and 65536 squared is 0.
      {"(5000 * 10) * (5000 * 10)", -99999}, {"(4096 * 16) * (4096 * 16)", 0}, {"(4096 * 16) * (4096 * 16) + 3", 3},
      {"(4096 * 16) * (4096 * 8) / (0 - 1)", -99999}, {"(4096 * 16) * (4096 * 8) % (0 - 1)", 0}, {"harbour*100+(garrison>5)*10+price", 117},
    };
    for (Object[] row : rows) due(10, "worth by " + row[0], worthBy((String) row[0]), (Integer) row[1]);
    SpiceSwaps y = Due.told("court a gold 0;court b gold 0;place p of b yield 40;place q of b yield 2;worth held * 100 + price * 10 + year;");
    due(10, "held of the court that looks, not of the holder", y.worth(0, 0), 10);
    due(10, "held of the holder", y.worth(1, 0), 210);
    y.cede(1, 0);
    y.year();
    due(10, "held and year later", y.worth(0, 0), 111);
    due(10, "without a crop the price is 1", y.worth(1, 1), 111);
  }

  private static void swapAndCede() {
    SpiceSwaps x = Due.told(A);
    due(11, "swap of one court's", x.swap(0, 4), false);
    due(11, "swap with itself", x.swap(0, 0), false);
    due(11, "swap(0, 5)", x.swap(0, 5), false);
    due(11, "swap(-1, 0)", x.swap(-1, 0), false);
    due(11, "swap(0, -1)", x.swap(0, -1), false);
    due(46, "no acts", x.about(6), 0);
    due(11, "swap(0, 3)", x.swap(0, 3), true);
    due(11, "p is c's", x.place(0, 0), 2);
    due(11, "s is a's", x.place(3, 0), 0);
    due(11, "q stays", x.place(1, 0), 1);
    due(12, "cede(0, 2): the same", x.cede(0, 2), NONE);
    due(12, "cede(5, 0)", x.cede(5, 0), NONE);
    due(12, "cede(-1, 0)", x.cede(-1, 0), NONE);
    due(12, "cede(0, 3)", x.cede(0, 3), NONE);
    due(12, "cede(0, -1)", x.cede(0, -1), NONE);
    due(12, "cede(0, 1)", x.cede(0, 1), 2);
    due(12, "c holds none", x.court(2, 1), 0);
    due(12, "b's places", x.court(1, 1), 7);
    due(46, "two acts", x.about(6), 2);
  }

  private static void carry() {
    SpiceSwaps x = Due.told(A);
    due(13, "to a place that grows one", x.carry(0, 1), NONE);
    due(13, "by a court that does not grow it", x.carry(1, 2), NONE);
    due(13, "carry(2, 2)", x.carry(2, 2), NONE);
    due(13, "carry(-1, 2)", x.carry(-1, 2), NONE);
    due(13, "carry(0, 5)", x.carry(0, 5), NONE);
    due(13, "carry(0, -1)", x.carry(0, -1), NONE);
    due(46, "no acts", x.about(6), 0);
    due(13, "carry(0, 2)", x.carry(0, 2), 2);
    due(13, "r grows it", x.place(2, 2), 0);
    due(13, "EARNED of r", x.place(2, 5), 12);
    due(13, "again", x.carry(0, 2), NONE);
    x.cede(1, 0);
    x.cede(2, 0);
    due(13, "by the one that grows it alone", x.carry(0, 4), 1);
    due(46, "four acts", x.about(6), 4);
  }

  private static void years() {
    SpiceSwaps x = Due.told(A);
    due(14, "year()", x.year(), 44);
    int[] gold = {22, 20, 16};
    for (int c = 0; c < 3; c++) due(14, "gold of " + c, x.court(c, 0), gold[c]);
    due(14, "yields stay without grow", x.about(5), 32);
    due(14, "the year", x.about(3), 1);
    due(14, "the seed", x.about(4), 71);
    x.year();
    due(14, "the seed again", x.about(4), (71 * 137 + 71) % 1000);
    SpiceSwaps y = Due.told("court a gold 3;place p of a yield 2 garrison 7;");
    due(14, "EARNED below 0", y.year(), -5);
    due(14, "gold below 0", y.court(0, 0), -2);
    SpiceSwaps z = Due.told("court a gold 0;place p of a yield 50;place q of a yield 95 harbour;place r of a yield 3;grow 20 * harbour - 5;");
    due(14, "EARNED by yields ahead of growing", z.year(), 148);
    due(14, "less by 5", z.place(0, 1), 45);
    due(14, "9 at most, 99 at most", z.place(1, 1), 99);
    due(14, "0 at least", z.place(2, 1), 0);
    z.year();
    due(14, "and on", z.place(0, 1), 40);
    SpiceSwaps g = Due.told("court a gold 0;court b gold 0;crop n price 3;place p of a yield 50 grows n;place q of b yield 50;place r of b yield 50;"
        + "believes a p 7;grow price * 2 + held + year - (belief > 100) - (belief < 100);");
    g.year();
    due(14, "by price and held of its court", g.place(0, 1), 57);
    due(14, "price 1, held 2", g.place(1, 1), 54);
    g.year();
    due(14, "by the year that was", g.place(0, 1), 57 + 8);
    due(14, "by the year that was too", g.place(2, 1), 54 + 5);
    SpiceSwaps least = Due.told("court a gold 0;place p of a yield 50;grow 0 - 100;");
    least.year();
    due(14, "-9 at least", least.place(0, 1), 41);
    SpiceSwaps most = Due.told("court a gold 0;place p of a yield 50;grow 100;");
    most.year();
    due(14, "9 at most", most.place(0, 1), 59);
    SpiceSwaps far = Due.told("court a gold 0;place p of a yield 1;");
    for (int i = 0; i < 999; i++) far.year();
    due(14, "year 999", far.about(3), 999);
    due(14, "behind 999 of them", far.year(), GAP);
    due(14, "nothing is done", far.about(3), 999);
    due(30, "ahead beyond year 999", far.will(0, 60), 999 + 60);
  }

  private static void storms() {
    // 7 -> 30: 30 is less than 31 and hits 30 % 4 = 2; 30 -> 181: 81 is not.
    String four = "court a gold 0;place p of a yield 9;place q of a yield 9;place r of a yield 9;place s of a yield 9;draw 7;";
    SpiceSwaps x = Due.told(four + "storm 31 of 4;");
    due(46, "the seed as told", x.about(4), 7);
    x.year();
    due(14, "hit", x.place(2, 1), 5);
    due(14, "one alone", x.about(5), 32);
    x.year();
    due(14, "not hit", x.about(5), 32);
    due(14, "the seed", x.about(4), 181);
    SpiceSwaps y = Due.told(four + "storm 30 of 4;");
    y.year();
    due(14, "30 is not less than 30", y.about(5), 36);
    SpiceSwaps edge = Due.told(four + "storm 81 of 4;");
    edge.year();
    edge.year();
    due(14, "the rest of 181 by 100 is not less than 81", edge.about(5), 32);
    SpiceSwaps z = Due.told(four + "storm 100 of 99;");
    z.year();
    due(14, "0 at least", z.place(2, 1), 0);
    z.year();
    due(14, "each year with 100", z.place(1, 1), 0);
    SpiceSwaps late = Due.told(four + "storm 100 of 5;grow harbour + 3;");
    late.year();
    due(14, "first it grows, then it is hit", late.place(2, 1), 7);
    SpiceSwaps cut = Due.told("court a gold 0;place p of a yield 1;storm 100 of 5;draw 0;grow 9;");
    cut.year();
    due(14, "grown, then hit", cut.place(0, 1), 5);
    SpiceSwaps none = Due.told("court a gold 4;storm 100 of 5;draw 999;");
    due(14, "a storm without places", none.year(), 0);
    due(14, "its seed", none.about(4), (999 * 137 + 71) % 1000);
  }

  private static void undoAndRedo() {
    SpiceSwaps x = Due.told(A + "grow 1;storm 50 of 3;draw 3;");
    due(15, "none to undo", x.undo(), false);
    due(16, "none to redo", x.redo(), false);
    x.swap(0, 3);
    x.carry(1, 4);
    x.year();
    x.cede(0, 1);
    int seed = x.about(4);
    int gold = x.court(0, 0);
    due(46, "four can be undone", x.about(6), 4);
    due(15, "undo", x.undo(), true);
    due(15, "ceded no more", x.place(0, 0), 2);
    due(15, "undo the year", x.undo(), true);
    due(15, "the year is back", x.about(3), 0);
    due(15, "the seed is back", x.about(4), 3);
    due(15, "gold is back", x.court(0, 0), 5);
    due(15, "yields are back", x.about(5), 32);
    due(15, "undo the carrying", x.undo(), true);
    due(15, "the crop is gone", x.place(4, 2), NONE);
    due(46, "three can be redone", x.about(7), 3);
    due(46, "one can be undone", x.about(6), 1);
    due(16, "redo", x.redo(), true);
    due(16, "it grows again", x.place(4, 2), 1);
    due(16, "redo", x.redo(), true);
    due(16, "the year again", x.about(3), 1);
    due(16, "the seed again", x.about(4), seed);
    due(16, "gold again", x.court(0, 0), gold);
    due(11, "a swap that can't be", x.swap(0, 0), false);
    due(16, "what is not done takes nothing", x.about(7), 1);
    due(16, "redo", x.redo(), true);
    due(16, "ceded again", x.place(0, 0), 1);
    due(16, "no more", x.redo(), false);
    x.undo();
    x.cede(1, 2);
    due(16, "another act ends redoing", x.redo(), false);
    due(46, "about(7)", x.about(7), 0);
    SpiceSwaps y = Due.told("court a gold 0;court b gold 0;place p of a yield 1;");
    for (int i = 0; i < 43; i++) y.year();
    due(15, "40 are kept", y.about(6), 40);
    for (int i = 0; i < 40; i++) due(15, "undo " + i, y.undo(), true);
    due(15, "the oldest are gone", y.undo(), false);
    due(15, "the oldest that is known", y.about(3), 3);
    due(15, "gold then", y.court(0, 0), 3);
    due(46, "40 can be redone", y.about(7), 40);
    for (int i = 0; i < 40; i++) {
      due(16, "redo " + i, y.redo(), true);
      due(16, "year behind redo " + i, y.about(3), 4 + i);
    }
    due(16, "no more", y.redo(), false);
    y.cede(0, 1);
    due(15, "still 40", y.about(6), 40);
    y.undo();
    due(15, "back by one", y.place(0, 0), 0);
    due(15, "and the year", y.about(3), 43);
    for (int i = 0; i < 39; i++) y.undo();
    due(15, "the oldest now", y.about(3), 4);
    due(15, "nothing ahead of it", y.undo(), false);
  }

  private static void gainsAndSwaps() {
    SpiceSwaps x = Due.told(A);
    due(17, "gain(0, 1)", x.gain(0, 1), 0);
    due(17, "gain(1, 0)", x.gain(1, 0), -2);
    due(17, "gain(2, 3)", x.gain(2, 3), 3);
    due(17, "gain(3, 2)", x.gain(3, 2), 3);
    due(17, "gain(1, 2): one court's", x.gain(1, 2), GAP);
    due(17, "gain(1, 1)", x.gain(1, 1), GAP);
    due(17, "gain(5, 0)", x.gain(5, 0), GAP);
    due(17, "gain(0, 5)", x.gain(0, 5), GAP);
    due(17, "gain(-1, 0)", x.gain(-1, 0), GAP);
    due(18, "best(0)", x.best(0), 6);
    due(18, "best(1)", x.best(1), 2);
    due(18, "best(2)", x.best(2), 3);
    due(18, "best(3)", x.best(3), GAP);
    due(18, "best(-1)", x.best(-1), GAP);
    due(19, "swaps()", x.swaps(), 1);
    due(18, "nothing is done", x.about(6), 0);
    due(19, "swaps() as the first call", Due.told(A).swaps(), 1);
    x.swap(2, 3);
    due(19, "swaps() as it is then", x.swaps(), 0);
    due(18, "best(0) as it is then", x.best(0), GAP);
    // All alike: each of the swaps gains 0, the first is taken.
    SpiceSwaps y = Due.told("court a gold 0;court b gold 0;place p of a yield 5;place q of a yield 5;place r of b yield 5;place s of b yield 5;");
    due(18, "best(0) of 0", y.best(0), 0);
    due(18, "the first one", y.best(1), 0);
    due(18, "for the first other one", y.best(2), 2);
    due(19, "swaps of 0", y.swaps(), 4);
    SpiceSwaps z = Due.told("court a gold 0;court b gold 0;place p of a yield 5;place q of b yield 6;");
    due(18, "none by which neither is worse", z.best(0), GAP);
    due(18, "best(1)", z.best(1), GAP);
    due(19, "none", z.swaps(), 0);
  }

  private static void haggling() {
    SpiceSwaps x = Due.told(A);
    due(20, "haggle", x.haggle(), 1);
    lies(20, "haggle", x, 0, 1, 2, 1, 0);
    due(20, "nothing is done", x.place(2, 0), 1);
    due(20, "no act", x.about(6), 0);
    SpiceSwaps y = Due.told("court a gold 0;court b gold 0;place p of a yield 5;place q of b yield 5;");
    due(20, "a swap that gains 0 is not made", y.haggle(), 0);
    lies(20, "no swaps", y, 0, 1);
    // A long haggling: thirteen swaps, each the best one when its turn comes.
    int[] holders = {1, 0, 3, 1, 2, 0, 3};
    int[][] worth = {{30, 130, 168, 21, 106, 32, 178}, {130, 170, 96, 135, 184, 150, 48}, {80, 160, 160, 160, 9, 160, 10}, {136, 4, 128, 133, 116, 134, 121}};
    StringBuilder text = new StringBuilder("court a gold 0;court b gold 0;court c gold 0;court d gold 0;worth belief;");
    for (int p = 0; p < 7; p++) text.append("place ").append((char) ('a' + p)).append(" of ").append((char) ('a' + holders[p])).append(" yield 1;");
    for (int c = 0; c < 4; c++) for (int p = 0; p < 7; p++) text.append("believes ").append((char) ('a' + c)).append(' ').append((char) ('a' + p)).append(' ').append(worth[c][p]).append(';');
    SpiceSwaps z = Due.told(text.toString());
    due(20, "a long haggling", z.haggle(), 13);
    // Doing what SWAP says, one by one, ends alike.
    SpiceSwaps w = Due.told(text.toString());
    int made = 0;
    while (w.best(0) > 0) {
      w.swap(w.best(1), w.best(2));
      made++;
    }
    due(20, "made by hand", made, 13);
    for (int p = 0; p < 7; p++) due(20, "who holds " + p, z.lies(p), w.place(p, 0));
  }

  private static void enviesAndPorts() {
    SpiceSwaps x = Due.told(A);
    due(21, "envies(0)", x.envies(0), 2);
    due(21, "envies(1)", x.envies(1), 0);
    due(21, "envies(2)", x.envies(2), 3);
    due(21, "envies(3)", x.envies(3), NONE);
    due(21, "envies(-1)", x.envies(-1), NONE);
    SpiceSwaps y = Due.told("court a gold 0;court b gold 0;court c gold 0;place p of a yield 5;place q of b yield 5;");
    due(21, "as much is not more", y.envies(0), 0);
    due(21, "one that holds none", y.envies(2), 3);
    SpiceSwaps z = Due.told("court a gold 0;court b gold 0;place p of a yield 5;worth 0 - yield;");
    due(21, "one that holds none is better off", z.envies(0), 2);
    due(22, "ports(0)", x.ports(0), 1);
    due(22, "ports(1)", x.ports(1), 1);
    due(22, "ports(2)", x.ports(2), 0);
    x.cede(2, 0);
    due(22, "two", x.ports(0), 2);
    due(22, "ports(3)", x.ports(3), NONE);
    due(22, "ports(-1)", x.ports(-1), NONE);
  }

  private static void rings() {
    SpiceSwaps x = Due.told(A);
    due(23, "ring: the swap of r and s", x.ring(), 6);
    lies(23, "ring", x, NONE, 2, 3);
    due(23, "nothing is done", x.about(6), 0);
    SpiceSwaps none = Due.told("court a gold 0;court b gold 0;place p of a yield 5;place q of b yield 6;");
    none.dear();
    due(23, "no ring", none.ring(), GAP);
    lies(23, "no ring", none);
    // Against the numbers: a gives to c, c to b, b to a.
    SpiceSwaps y = Due.told("court a gold 0;court b gold 0;court c gold 0;place x of a yield 5;place y of b yield 5;place z of c yield 5;"
        + "believes a y 200;believes b z 200;believes c x 200;");
    due(23, "a ring of three", y.ring(), 15);
    lies(23, "a ring of three", y, 0, 1, 2);
    SpiceSwaps back = Due.told("court a gold 0;court b gold 0;court c gold 0;place x of a yield 5;place y of b yield 5;place z of c yield 5;"
        + "believes a z 200;believes b x 200;believes c y 200;");
    due(23, "the other way round", back.ring(), 15);
    lies(23, "the other way round", back, 0, 1, 2);
    // All alike, all rings gain 0: two courts, and none of the first ones as far as can be.
    SpiceSwaps even = Due.told("court a gold 0;court b gold 0;court c gold 0;place u of a yield 5;place v of b yield 5;place w of c yield 5;place x of c yield 5;");
    due(23, "even", even.ring(), 0);
    lies(23, "even", even, NONE, 1, 2);
    // Four courts in the order a, c, b, d, which gains 4 times 100; no three or two gain at all.
    SpiceSwaps four = Due.told("court a gold 0;court b gold 0;court c gold 0;court d gold 0;place w of a yield 1;place x of b yield 1;place y of c yield 1;place z of d yield 1;"
        + "worth belief;believes c w 200;believes b y 200;believes d x 200;believes a z 200;"
        + "believes a x 99;believes a y 99;believes b w 99;believes b z 99;believes c x 99;believes c z 99;believes d w 99;believes d y 99;");
    due(23, "a ring of four", four.ring(), 400);
    lies(23, "a ring of four", four, 0, 1, 2, 3);
    due(18, "and no swap", four.best(0), GAP);
    // A swap and a ring of three gain 10 alike: the fewest courts.
    SpiceSwaps like = Due.told("court a gold 0;court b gold 0;court c gold 0;place w of a yield 1;place x of b yield 1;place y of c yield 1;worth belief;"
        + "believes a x 105;believes b w 105;believes b y 105;believes c w 100;believes c x 0;believes a y 0;");
    due(23, "of like ones", like.ring(), 10);
    lies(23, "the fewest courts", like, 0, 1, NONE);
    // The ring of three gives u of a, the swap v of a: fewer courts count ahead of the first place.
    SpiceSwaps later = Due.told("court a gold 0;court b gold 0;court c gold 0;place u of a yield 1;place v of a yield 1;place x of b yield 1;place y of c yield 1;worth belief;"
        + "believes a u 100;believes a v 100;believes a x 105;believes b v 105;believes b u 0;believes b y 105;believes c u 100;believes c v 0;believes c x 0;believes a y 0;");
    due(23, "of like ones again", later.ring(), 10);
    lies(23, "the fewest courts, if not the first", later, 1, 2, NONE);
    due(23, "no courts", new SpiceSwaps().ring(), GAP);
  }

  private static void dearAndMisheld() {
    SpiceSwaps x = Due.told(A);
    due(24, "dear", x.dear(), 41);
    lies(24, "dear", x, 0, 0, 2, 0, 0);
    due(25, "misheld", x.misheld(), 6);
    due(24, "nothing is done", x.about(6), 0);
    SpiceSwaps y = Due.told("court a gold 0;court b gold 0;place p of a yield 5;place q of b yield 5;worth 0 - yield - held;");
    due(24, "below 0", y.dear(), -12);
    due(25, "as much is not more", y.misheld(), 0);
    SpiceSwaps held = Due.told("court a gold 0;court b gold 0;place p of a yield 5;place q of a yield 5;worth held;");
    due(24, "held as it is now", held.dear(), 4);
    lies(24, "held as it is now", held, 0, 0);
    due(25, "none", held.misheld(), 0);
    due(25, "misheld as the first call", Due.told(A).misheld(), 6);
    SpiceSwaps none = new SpiceSwaps();
    due(24, "no places", none.dear(), 0);
    due(25, "no places", none.misheld(), 0);
  }

  private static void dividing() {
    SpiceSwaps x = Due.told(A);
    due(26, "divide(0, 1, 31, 0)", x.divide(0, 1, 31, 0), 16);
    due(26, "divide(0, 1, 31, 1)", x.divide(0, 1, 31, 1), 32);
    due(26, "divide(0, 1, 31, 2)", x.divide(0, 1, 31, 2), 5);
    due(26, "divide(1, 0, 31, 2)", x.divide(1, 0, 31, 2), 10);
    due(26, "of none", x.divide(0, 1, 0, 0), 0);
    due(26, "of t alone", x.divide(0, 1, 16, 2), 0);
    due(26, "of q alone, to the one to which it is worth more", x.divide(1, 0, 2, 1), 10);
    due(26, "its lesser part", x.divide(1, 0, 2, 0), 0);
    due(26, "its first part", x.divide(1, 0, 2, 2), 0);
    due(26, "and to the first one", x.divide(0, 1, 2, 2), 2);
    due(26, "one and the same", x.divide(1, 1, 31, 0), GAP);
    due(26, "divide(0, 1, 32, 0)", x.divide(0, 1, 32, 0), GAP);
    due(26, "divide(0, 1, -1, 0)", x.divide(0, 1, -1, 0), GAP);
    due(26, "divide(0, 3, 1, 0)", x.divide(0, 3, 1, 0), GAP);
    due(26, "divide(-1, 0, 1, 0)", x.divide(-1, 0, 1, 0), GAP);
    due(26, "divide(0, 1, 31, 3)", x.divide(0, 1, 31, 3), GAP);
    due(26, "divide(0, 1, 31, -1)", x.divide(0, 1, 31, -1), GAP);
    SpiceSwaps y = Due.told("court a gold 0;court b gold 0;place p of a yield 5;place q of a yield 5;place r of b yield 9;worth 0 - yield;");
    due(26, "below 0: the lesser part", y.divide(0, 1, 7, 0), -10);
    due(26, "below 0: both", y.divide(0, 1, 7, 1), -19);
    due(26, "below 0: the least set", y.divide(0, 1, 7, 2), 3);
  }

  private static void lots() {
    SpiceSwaps x = Due.told(A);
    int[][] rows = {{-5, 0, 0, 0}, {0, 0, 0, 0}, {1, 1, 6, 4}, {6, 1, 6, 4}, {7, 1, 7, 2}, {10, 1, 7, 2}, {11, 2, 13, 6}, {16, 2, 13, 6}};
    for (int[] row : rows) {
      for (int w = 0; w < 3; w++) due(27, "lots(1, 0, " + row[0] + ", " + w + ")", x.lots(1, 0, row[0], w), row[1 + w]);
    }
    for (int w = 0; w < 3; w++) due(27, "no set is enough", x.lots(1, 0, 17, w), GAP);
    due(27, "so much is never", x.lots(1, 0, Integer.MAX_VALUE, 0), GAP);
    due(27, "so little is always", x.lots(1, 0, Integer.MIN_VALUE, 2), 0);
    due(27, "one and the same", x.lots(1, 1, 0, 0), GAP);
    due(27, "lots(3, 0, 0, 0)", x.lots(3, 0, 0, 0), GAP);
    due(27, "lots(0, 3, 0, 0)", x.lots(0, 3, 0, 0), GAP);
    due(27, "lots(0, -1, 0, 0)", x.lots(0, -1, 0, 0), GAP);
    due(27, "lots(1, 0, 0, 3)", x.lots(1, 0, 0, 3), GAP);
    due(27, "lots(1, 0, 0, -1)", x.lots(1, 0, 0, -1), GAP);
    SpiceSwaps y = Due.told("court a gold 0;court b gold 0;place p of b yield 9;place q of a yield 5;place r of a yield 5;place s of a yield 5;");
    due(27, "of like ones the least set", y.lots(0, 1, 10, 2), 6);
    due(27, "what another one holds is not ceded", y.lots(0, 1, 16, 0), GAP);
  }

  private static void seedsAndLeaks() {
    SpiceSwaps x = Due.told(A);
    due(28, "seeds(1, 0, 0)", x.seeds(1, 0, 0), 2);
    due(28, "seeds(1, 0, 1)", x.seeds(1, 0, 1), 6);
    due(28, "seeds(0, 0, 0)", x.seeds(0, 0, 0), 4);
    due(28, "seeds(0, 0, 1)", x.seeds(0, 0, 1), 0);
    due(28, "c does not grow mace", x.seeds(2, 0, 0), GAP);
    due(28, "c has no place for clove", x.seeds(2, 1, 0), GAP);
    due(28, "seeds(3, 0, 0)", x.seeds(3, 0, 0), GAP);
    due(28, "seeds(0, 2, 0)", x.seeds(0, 2, 0), GAP);
    due(28, "seeds(-1, 0, 0)", x.seeds(-1, 0, 0), GAP);
    due(28, "seeds(0, -1, 0)", x.seeds(0, -1, 0), GAP);
    due(28, "seeds(1, 0, 2)", x.seeds(1, 0, 2), GAP);
    due(28, "seeds(1, 0, -1)", x.seeds(1, 0, -1), GAP);
    due(28, "nothing is done", x.place(2, 2), NONE);
    due(29, "clove to r", x.leak(1, 2), 14);
    due(29, "clove to t", x.leak(1, 4), 14);
    due(29, "mace to t: a grows it already", x.leak(0, 4), 0);
    due(29, "to one that grows a crop", x.leak(1, 0), GAP);
    due(29, "leak(2, 2)", x.leak(2, 2), GAP);
    due(29, "leak(-1, 2)", x.leak(-1, 2), GAP);
    due(29, "leak(0, 5)", x.leak(0, 5), GAP);
    due(29, "leak(0, -1)", x.leak(0, -1), GAP);
    due(29, "nothing is done", x.about(6), 0);
    // With price 1 and two growers the court earns less by it: 5 -> 2, 4 -> 2; the second loses less.
    SpiceSwaps y = Due.told("court a gold 0;court b gold 0;crop n price 1;place p of a yield 5 grows n;place q of b yield 9 grows n;place r of a yield 5;place s of a yield 4;place t of a yield 4;");
    due(28, "the least loss, the first", y.seeds(0, 0, 0), 3);
    due(28, "how much more: less", y.seeds(0, 0, 1), -2);
    SpiceSwaps z = Due.told("court a gold 0;court b gold 0;court c gold 0;crop n price 9;place p of a yield 5 grows n;place q of b yield 5 grows n;place r of c yield 5;");
    // 45 / 2 = 22 each ahead, 45 / 3 = 15 then; c's own do not count.
    due(29, "all others together", z.leak(0, 2), 14);
  }

  private static void lookingAhead() {
    SpiceSwaps x = Due.told(A);
    due(30, "will(0, 0)", x.will(0, 0), 5);
    due(30, "will(0, 3)", x.will(0, 3), 56);
    due(30, "will(1, 60)", x.will(1, 60), 1200);
    due(30, "will(0, 61)", x.will(0, 61), GAP);
    due(30, "will(0, -1)", x.will(0, -1), GAP);
    due(30, "will(3, 0)", x.will(3, 0), GAP);
    due(30, "will(-1, 0)", x.will(-1, 0), GAP);
    due(30, "nothing is done", x.about(3), 0);
    due(31, "never", x.ruin(0), NONE);
    due(31, "ruin(3)", x.ruin(3), NONE);
    due(31, "ruin(-1)", x.ruin(-1), NONE);
    SpiceSwaps y = Due.told("court a gold 60;court b gold 59;court c gold 1;place p of a yield 1 garrison 2;place q of b yield 1 garrison 2;place r of c yield 0 garrison 1;");
    due(31, "behind 61 it would be", y.ruin(0), NONE);
    due(31, "behind 60", y.ruin(1), 60);
    due(31, "0 is not below 0", y.ruin(2), 2);
    y.year();
    y.year();
    due(31, "it is now", y.ruin(2), 0);
    due(31, "sooner now", y.ruin(0), 59);
    SpiceSwaps z = Due.told("court a gold 0;court b gold 30;place p of a yield 10;place q of b yield 98;grow 1 - 3 * (yield < 20);storm 100 of 50;draw 1;");
    // 1 -> 208: hits p; 208 -> 567: hits q.
    due(32, "grown(0, 0)", z.grown(0, 0), 10);
    due(32, "grown(0, 1)", z.grown(0, 1), 0);
    due(32, "grown(1, 1)", z.grown(1, 1), 99);
    due(32, "grown(1, 2)", z.grown(1, 2), 49);
    due(32, "grown(0, 60)", z.grown(0, 60), 0);
    due(32, "grown(0, 61)", z.grown(0, 61), NONE);
    due(32, "grown(0, -1)", z.grown(0, -1), NONE);
    due(32, "grown(2, 0)", z.grown(2, 0), NONE);
    due(32, "grown(-1, 0)", z.grown(-1, 0), NONE);
    due(30, "will(1, 3)", z.will(1, 3), 30 + 98 + 99 + 49);
    int ahead = z.will(1, 3);
    z.year();
    z.year();
    z.year();
    due(30, "so it came", z.court(1, 0), ahead);
    SpiceSwaps r = Due.told("court a gold 9;court b gold 3;court c gold 9;place p of b yield 3;");
    due(33, "the first of like ones", r.richest(0), 0);
    due(33, "as much is not more", r.richest(2), 0);
    due(33, "richer", r.richest(3), 1);
    due(33, "richest(60)", r.richest(60), 1);
    due(33, "richest(61)", r.richest(61), NONE);
    due(33, "richest(-1)", r.richest(-1), NONE);
    due(33, "without courts", new SpiceSwaps().richest(0), NONE);
  }

  private static void odds() {
    String seven = "court a gold 0;place p of a yield 1;place q of a yield 1;place r of a yield 1;place s of a yield 1;place t of a yield 1;place u of a yield 1;place v of a yield 1;";
    SpiceSwaps x = Due.told(seven + "storm 1 of 1;");
    int[][] rows = {{1, 1}, {699, 700}, {699 * 699, 490000}, {699 * 699 * 699, 343000000}};
    for (int n = 0; n < 4; n++) for (int p = 0; p < 2; p++) due(34, "odds(" + n + ", " + p + ")", x.odds(n, p), rows[n][p]);
    due(34, "odds(4, 0)", x.odds(4, 0), NONE);
    due(34, "odds(-1, 0)", x.odds(-1, 0), NONE);
    due(34, "odds(1, 2)", x.odds(1, 2), NONE);
    due(34, "odds(1, -1)", x.odds(1, -1), NONE);
    SpiceSwaps sure = Due.told("court a gold 0;place p of a yield 1;storm 100 of 1;");
    due(34, "0 of 1: the upper part", sure.odds(1, 0), 0);
    due(34, "0 of 1: the lower part", sure.odds(1, 1), 1);
    due(34, "0 of 1 for 3", sure.odds(3, 1), 1);
    due(34, "1 of 1 for 0", sure.odds(0, 0), 1);
    SpiceSwaps calm = Due.told(seven);
    due(34, "no storm: the upper part", calm.odds(3, 0), 1);
    due(34, "no storm: the lower part", calm.odds(3, 1), 1);
    SpiceSwaps half = Due.told("court a gold 0;place p of a yield 1;place q of a yield 1;storm 100 of 1;");
    due(34, "in lowest terms", half.odds(2, 0), 1);
    due(34, "one of four", half.odds(2, 1), 4);
    due(34, "without places", Due.told("court a gold 0;").odds(1, 0), NONE);
  }

  private static void secrets() {
    SpiceSwaps x = Due.told(A);
    due(42, "nothing said: all fit", x.fits(0), 31);
    due(36, "yields(7, true)", x.yields(7, true), 0);
    due(42, "at least 7", x.fits(0), 1 + 2 + 8);
    due(36, "yields(10, false)", x.yields(10, false), 1);
    due(42, "and not 10", x.fits(0), 2 + 8);
    due(36, "yields(100, true)", x.yields(100, true), NONE);
    due(36, "yields(-1, true)", x.yields(-1, true), NONE);
    due(38, "holds(2, false)", x.holds(2, false), 2);
    due(42, "not c's", x.fits(0), 2);
    due(38, "holds(3, true)", x.holds(3, true), NONE);
    due(38, "holds(-1, true)", x.holds(-1, true), NONE);
    due(39, "grows(2, true)", x.grows(2, true), NONE);
    due(39, "grows(-1, true)", x.grows(-1, true), NONE);
    due(37, "harbours(true)", x.harbours(true), 3);
    due(42, "none", x.fits(0), 0);
    due(40, "untell(4)", x.untell(4), false);
    due(40, "untell(-1)", x.untell(-1), false);
    due(40, "untell(3)", x.untell(3), true);
    due(40, "untell(3) again", x.untell(3), false);
    due(42, "untold at the same time", x.fits(0), 2);
    due(39, "grows(0, true)", x.grows(0, true), 4);
    due(42, "mace", x.fits(0), 2);
    x.cede(1, 2);
    due(42, "as it is now", x.fits(0), 0);
    due(46, "what is said, untold too", x.about(8), 5);
    SpiceSwaps y = Due.told(A);
    y.harbours(false);
    due(42, "no harbour", y.fits(0), 2 + 8 + 16);
    y.grows(1, false);
    due(42, "no clove, or none at all", y.fits(0), 2 + 16);
    y.holds(0, true);
    due(42, "a's", y.fits(0), 16);
    SpiceSwaps z = Due.told(A);
    due(36, "yields(0, true)", z.yields(0, true), 0);
    due(42, "all yield 0 at least", z.fits(0), 31);
    due(36, "yields(99, false)", z.yields(99, false), 1);
    due(42, "none yields 99", z.fits(0), 31);
    for (int i = 2; i < 30; i++) due(37, "said " + i, z.harbours(i < 30), i);
    due(36, "beyond 30", z.yields(1, true), NONE);
    due(37, "beyond 30", z.harbours(true), NONE);
    due(38, "beyond 30", z.holds(0, true), NONE);
    due(39, "beyond 30", z.grows(0, true), NONE);
    z.untell(29);
    due(37, "untold ones count too", z.harbours(true), NONE);
    due(46, "30", z.about(8), 30);
    SpiceSwaps empty = new SpiceSwaps();
    due(36, "of an empty world", empty.yields(5, true), 0);
    due(42, "no places", empty.fits(0), 0);
  }

  private static void times() {
    SpiceSwaps x = Due.told(A);
    due(41, "later(0)", x.later(0), 0);
    due(41, "later(5)", x.later(5), 5);
    due(41, "later(-1)", x.later(-1), NONE);
    due(41, "later(1001)", x.later(1001), NONE);
    due(41, "later of a high number", x.later(Integer.MAX_VALUE), NONE);
    x.harbours(true);
    x.later(2);
    x.holds(0, true);
    x.later(3);
    x.untell(0);
    due(42, "as known at 4", x.fits(4), 31);
    due(42, "as known at 5", x.fits(5), 5);
    due(42, "as known at 6", x.fits(6), 5);
    due(42, "as known at 7", x.fits(7), 1);
    due(42, "as known at 9", x.fits(9), 1);
    due(42, "as known at 10", x.fits(10), 17);
    due(42, "as known at the end", x.fits(Integer.MAX_VALUE), 17);
    due(42, "as known ahead of all", x.fits(-1), 31);
    due(42, "as known at the least", x.fits(Integer.MIN_VALUE), 31);
    due(46, "the time", x.about(9), 10);
    for (int i = 0; i < 99; i++) x.later(1000);
    due(41, "99,010", x.about(9), 99010);
    due(41, "above 100,000", x.later(991), NONE);
    due(41, "it stays", x.about(9), 99010);
    due(41, "100,000", x.later(990), 100000);
    due(41, "no more", x.later(1), NONE);
    due(41, "by 0 still", x.later(0), 100000);
    Due.tape(x, A);
    x.world();
    due(4, "the time stays", x.about(9), 100000);
  }

  private static void asking() {
    SpiceSwaps x = Due.told(A);
    // Harbours 2 : 3; courts 2 2 1; crops 2 1 2: courts are first of those that leave 2.
    due(43, "ask(0, 0)", x.ask(0, 0), 1);
    due(43, "ask(1, 0)", x.ask(1, 0), 2);
    due(43, "ask(2, 0)", x.ask(2, 0), NONE);
    due(43, "ask(-1, 0)", x.ask(-1, 0), NONE);
    x.later(1);
    x.holds(1, true);
    due(43, "q or r: harbour tells", x.ask(0, 1), 0);
    due(43, "one is left", x.ask(1, 1), 1);
    due(43, "as known ahead of it", x.ask(1, 0), 2);
    x.grows(1, true);
    due(43, "none fits", x.ask(0, 1), NONE);
    due(43, "none fits", x.ask(1, 1), NONE);
    SpiceSwaps y = Due.told("court a gold 0;crop n price 1;crop m price 1;place p of a yield 1 grows n;place q of a yield 1;place r of a yield 1 grows m;");
    due(43, "which crop, or none", y.ask(0, 0), 2);
    due(43, "it tells all", y.ask(1, 0), 1);
    y.grows(0, true);
    due(43, "one fits: the first question", y.ask(0, 0), 0);
    due(43, "one is left", y.ask(1, 0), 1);
    due(43, "no places", new SpiceSwaps().ask(0, 0), NONE);
  }

  private static void images() {
    SpiceSwaps x = Due.told(A + "grow 2;draw 5;storm 90 of 1;");
    due(44, "image(3)", x.image(3), NONE);
    due(44, "image(-1)", x.image(-1), NONE);
    due(45, "back(0) of nothing", x.back(0), NONE);
    due(45, "back(3)", x.back(3), NONE);
    due(45, "back(-1)", x.back(-1), NONE);
    x.year();
    x.cede(0, 1);
    x.carry(0, 2);
    int[] kept = {x.about(4), x.about(5), x.court(0, 0), x.court(1, 0), x.court(1, 1), x.place(2, 2)};
    due(44, "image(0)", x.image(0), 1);
    due(44, "acts stay", x.about(6), 3);
    x.dear();
    x.harbours(true);
    x.year();
    x.swap(0, 3);
    x.undo();
    due(44, "image(2)", x.image(2), 2);
    due(45, "back(1): nothing was kept", x.back(1), NONE);
    due(45, "doing nothing", x.about(6), 4);
    due(45, "nothing at all", x.about(7), 1);
    due(45, "back(0)", x.back(0), 1);
    int[] then = {x.about(4), x.about(5), x.court(0, 0), x.court(1, 0), x.court(1, 1), x.place(2, 2)};
    for (int i = 0; i < kept.length; i++) due(45, "as it was kept " + i, then[i], kept[i]);
    due(45, "no acts are kept", x.about(6), 0);
    due(45, "nor to be redone", x.about(7), 0);
    due(45, "no undo", x.undo(), false);
    due(45, "no redo", x.redo(), false);
    due(45, "what is said stays", x.about(8), 1);
    due(45, "what lies there stays", x.about(12), 5);
    x.year();
    x.year();
    due(45, "gone on from", x.about(3), 3);
    due(45, "back(2)", x.back(2), 2);
    due(45, "back(0) again", x.back(0), 1);
    due(44, "kept anew", x.image(2), 1);
    x.year();
    due(45, "back(2) anew", x.back(2), 1);
  }

  private static void about() {
    SpiceSwaps x = Due.told(A + "worth yield * (2 + held);grow 1;storm 0 of 1;draw 77;");
    x.feed(0, 0, 0, 0, 0);
    x.later(12);
    x.harbours(true);
    x.holds(0, true);
    x.cede(0, 1);
    x.year();
    x.cede(0, 2);
    x.undo();
    x.ring();
    int[] want = {5, 3, 2, 1, (77 * 137 + 71) % 1000, 37, 2, 1, 2, 12, 20, 5, 3};
    x.dear();
    want[12] = 5;
    for (int i = 0; i < want.length; i++) due(46, "about(" + i + ")", x.about(i), want[i]);
    due(46, "about(13)", x.about(13), NONE);
    due(46, "about(-1)", x.about(-1), NONE);
    due(46, "about of a low number", x.about(Integer.MIN_VALUE), NONE);
  }

  /** What one world told must not be found in another that is told later by the same object. */
  private static void toldAnew() {
    SpiceSwaps x = new SpiceSwaps();
    String plain = "court a gold 1;place p of a yield 50;place q of a yield 50;";
    String[] texts = {plain + "believes a p 7;worth 3;grow 5;storm 100 of 9;draw 8;", plain, plain + "worth yield;", plain, plain, plain};
    int[] worths = {3, 50, 50, 50, 50, 50};
    for (int round = 0; round < 2; round++) {
      for (int i = 0; i < texts.length; i++) {
        Due.tape(x, texts[i]);
        due(4, "world " + i, x.world(), 2);
        due(4, "belief in world " + i, x.belief(0, 0), i == 0 ? 7 : 100);
        due(4, "worth in world " + i, x.worth(0, 0), worths[i]);
        due(4, "units in world " + i, x.about(11), i == 0 ? 2 : i == 2 ? 1 : 0);
        due(4, "the seed in world " + i, x.about(4), i == 0 ? 8 : 0);
        due(4, "odds in world " + i, x.odds(1, 1), i == 0 ? 2 : 1);
        x.year();
        due(4, "yields in world " + i, x.about(5), i == 0 ? 101 : 100);
      }
    }
    // A world that is refused half way leaves nothing of itself to the next one.
    Due.tape(x, "court a gold 9;worth 1;grow 2;storm 50 of 5;draw 1;draw");
    due(4, "refused", x.world(), NONE);
    Due.tape(x, plain);
    due(4, "told", x.world(), 2);
    due(4, "units", x.about(11), 0);
    due(4, "gold", x.court(0, 0), 1);
  }

  /** As much of all as there can be. */
  private static void fullWorld() {
    StringBuilder text = new StringBuilder();
    for (int c = 0; c < 4; c++) text.append("court ").append((char) ('a' + c)).append(" gold 999;");
    for (int k = 0; k < 3; k++) text.append("crop ").append((char) ('a' + k)).append(" price 9;");
    for (int p = 0; p < 7; p++) text.append("place ").append((char) ('a' + p)).append(" of ").append((char) ('a' + p % 4)).append(" yield 99").append(p < 6 ? " grows " + (char) ('a' + p % 3) : "").append(p == 6 ? " harbour" : "").append(";");
    for (int c = 0; c < 4; c++) for (int p = 0; p < 7; p++) text.append("believes ").append((char) ('a' + c)).append(' ').append((char) ('a' + p)).append(c == p % 4 ? " 200;" : " 199;");
    text.append("storm 100 of 99;draw 999;worth belief;");
    SpiceSwaps x = Due.told(text.toString());
    due(46, "places", x.about(0), 7);
    due(46, "courts", x.about(1), 4);
    due(46, "crops", x.about(2), 3);
    due(46, "yields", x.about(5), 693);
    due(8, "growers of a", x.crop(0, 1), 9);
    due(8, "places of c", x.crop(2, 2), 36);
    // Crop a at a and d, b at b and a, c at c and b: each place earns 891 / 2, the last one 99.
    for (int p = 0; p < 6; p++) due(6, "EARNED of " + p, x.place(p, 5), 445);
    due(6, "EARNED of the last", x.place(6, 5), 99);
    due(7, "all of a", x.court(0, 1), 17);
    due(7, "worths of c", x.court(2, 3), 400);
    due(18, "none is better", x.best(0), GAP);
    due(19, "no swaps", x.swaps(), 0);
    due(20, "no haggling", x.haggle(), 0);
    lies(20, "no haggling", x, 0, 1, 2, 3, 0, 1, 2);
    due(23, "no ring", x.ring(), GAP);
    due(24, "dear", x.dear(), 1400);
    lies(24, "dear", x, 0, 1, 2, 3, 0, 1, 2);
    due(25, "misheld", x.misheld(), 0);
    due(26, "divide: the lesser part", x.divide(0, 3, 127, 0), 599);
    due(26, "divide: both", x.divide(0, 3, 127, 1), 1396);
    due(26, "divide: the least set", x.divide(0, 3, 127, 2), 1 + 2 + 16);
    due(26, "beyond all places", x.divide(0, 3, 128, 2), GAP);
    due(27, "lots of a", x.lots(0, 3, 199, 2), 1);
    due(28, "seeds of c for c", x.seeds(2, 2, 0), 6);
    due(28, "how much more", x.seeds(2, 2, 1), 445 - 99);
    due(29, "a to the last", x.leak(0, 6), 2 * (445 - 297));
    due(22, "ports", x.ports(2), 1);
    due(21, "envies", x.envies(3), 7);
    due(42, "all fit", x.fits(0), 127);
    due(43, "ask", x.ask(0, 0), 1);
    due(43, "two are left", x.ask(1, 0), 2);
    // 999 -> 934, which hits 934 % 7 = 3.
    due(14, "all EARNED", x.year(), 6 * 445 + 99);
    due(14, "hit", x.place(3, 1), 0);
    due(33, "the richest", x.richest(0), 0);
    due(15, "undo", x.undo(), true);
    due(6, "back", x.place(3, 1), 99);
    due(13, "carried", x.carry(2, 6), 2);
    due(12, "the last one ceded", x.cede(6, 3), 2);
    due(11, "the last one swapped", x.swap(6, 0), true);
    due(44, "kept", x.image(2), 0);
    due(45, "and back", x.back(2), 0);
    due(6, "who holds the last", x.place(6, 0), 0);
    SpiceSwaps first = Due.told("court a gold 0;court b gold 0;crop n price 5;place p of a yield 3;place q of a yield 2;place r of a yield 1 grows n;place s of b yield 1;");
    due(28, "the first place", first.seeds(0, 0, 0), 0);
    due(28, "and what it gains", first.seeds(0, 0, 1), 12);
    due(27, "the first place alone", first.lots(0, 1, 3, 2), 1);
    due(27, "all of them", first.lots(0, 1, 6, 2), 7);
  }
}
