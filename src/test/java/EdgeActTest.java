/** ==== 2.: every sentence on what is so, on years, acts, UNDO and REDO that names a boundary case (promises 6 to 16). */
public final class EdgeActTest {
  private static final int NONE = Edge.NONE;
  private static final int GAP = Edge.GAP;
  private static final String C = "court c gold 0;";
  private static final String TWO = "court a gold 0;court b gold 0;";

  public static void main(String[] args) {
    prices();
    earned();
    growers();
    worthNotTold();
    worthLimits();
    byZero();
    wrapping();
    truths();
    lights();
    held();
    yearAtFirst();
    placeAsked();
    courtAsked();
    cropAsked();
    beliefAsked();
    worthAsked();
    goldBelowZero();
    grownBy();
    yieldLimits();
    growByWhatIsSo();
    seedsDrawn();
    stormOrNot();
    stormLoss();
    whichPlace();
    swapRefused();
    cedeRefused();
    carryRefused();
    yearRefused();
    undoNone();
    redoNone();
    redoTillAnotherAct();
    fortyAreKept();
    fortyRound();
    Edge.end("EdgeActTest", 6, 16);
  }

  // ---- what is so

  private static void prices() {
    Edge.sentence("PRICE of a PLACE: its CROP's price; 1 of none.");
    for (int price : new int[] {1, 9}) {
      SpiceSwaps x = Due.told(C + "crop n price " + price + ";place p of c yield 1 grows n;place q of c yield 1;worth price;");
      Edge.due(10, "price of a crop", x.worth(0, 0), price);
      Edge.due(10, "price of none", x.worth(0, 1), 1);
      x.carry(0, 1);
      Edge.due(10, "price of the one carried there", x.worth(0, 1), price);
    }
  }

  private static void earned() {
    Edge.sentence("(cut; a PLACE without a CROP: its yield), less its garrison.");
    SpiceSwaps x = Due.told(TWO + "crop n price 1;place p of a yield 1 grows n garrison 1;place q of b yield 3 grows n;place r of a yield 0 garrison 20;place s of a yield 99;"
        + "place t of b yield 2 grows n garrison 20;");
    Edge.due(6, "1 by 2 is cut ahead of the garrison", x.place(0, 5), -1);
    Edge.due(6, "3 by 2", x.place(1, 5), 1);
    Edge.due(6, "no yield, most of a garrison", x.place(2, 5), -20);
    Edge.due(6, "without a crop", x.place(3, 5), 99);
    Edge.due(6, "2 by 2 less 20", x.place(4, 5), -19);
    SpiceSwaps y = Due.told(C + "crop n price 9;place p of c yield 99 grows n;");
    Edge.due(6, "the most", y.place(0, 5), 891);
  }

  private static void growers() {
    Edge.sentence("by how many COURTS hold a PLACE that grows that CROP");
    String text = "court a gold 0;court b gold 0;court c gold 0;court d gold 0;crop n price 1;crop m price 1;place p of a yield 99 grows n;place q of a yield 99 grows n;"
        + "place r of a yield 99 grows n;place s of a yield 99 grows n;place t of b yield 99 grows m;place u of b yield 99;";
    SpiceSwaps x = Due.told(text);
    int[] due = {99, 49, 33, 24};
    for (int courts = 1; courts <= 4; courts++) {
      if (courts > 1) x.cede(courts - 1, courts - 1);
      Edge.due(6, "EARNED with " + courts, x.place(0, 5), due[courts - 1]);
      Edge.due(8, "growers", x.crop(0, 1), (1 << courts) - 1);
      Edge.due(6, "another crop is not parted", x.place(4, 5), 99);
      Edge.due(6, "none is not parted", x.place(5, 5), 99);
    }
  }

  private static void worthNotTold() {
    Edge.sentence("(yield times belief by 100, cut, if it is not told)");
    int[][] rows = {{99, 99, 98}, {99, 200, 198}, {99, 0, 0}, {0, 200, 0}, {1, 99, 0}, {1, 100, 1}, {1, 101, 1}, {1, 199, 1}, {1, 200, 2}, {99, 1, 0}, {50, 2, 1}, {49, 2, 0}};
    for (int[] row : rows) {
      SpiceSwaps x = Due.told(C + "place p of c yield " + row[0] + ";believes c p " + row[1] + ";");
      Edge.due(10, row[0] + " times " + row[1], x.worth(0, 0), row[2]);
    }
    SpiceSwaps x = Due.told(C + "place p of c yield 5;worth 0;");
    Edge.due(10, "told as 0", x.worth(0, 0), 0);
  }

  private static int worthBy(String formula) {
    return Due.told(C + "place p of c yield 1;worth " + formula + ";").worth(0, 0);
  }

  private static void worthLimits() {
    Edge.sentence("-99,999 at least, 99,999 at most.");
    String most = "9999*10+";
    for (int i = 0; i <= 12; i++) Edge.due(10, "99,990 and " + i, worthBy(most + i), Math.min(99999, 99990 + i));
    for (int i = 0; i <= 12; i++) Edge.due(10, "-99,990 less " + i, worthBy("0-9999*10-" + i), Math.max(-99999, -99990 - i));
    Edge.due(10, "the highest int", worthBy("8192*8192*32-1"), 99999);
    Edge.due(10, "the lowest int", worthBy("8192*8192*32"), -99999);
    // Only what comes of the whole formula is cut to these, not its parts.
    Edge.due(10, "parts may be above", worthBy("9999*9999/9999"), 9999);
    Edge.due(10, "parts may be below", worthBy("(0-9999*9999)/9999"), -9999);
    // Gains and worths together may be beyond them.
    SpiceSwaps x = Due.told(TWO + "place p of a yield 1;place q of a yield 1;place r of b yield 2;worth (yield*2-3)*9999*11;");
    Edge.due(7, "two together", x.court(0, 3), -199998);
    Edge.due(17, "a gain of both limits", x.gain(0, 2), 199998);
  }

  private static void byZero() {
    Edge.sentence("/ cut, % its rest, both by 0: 0;");
    String[] formulas = {"7/0", "7%0", "0/0", "0%0", "(0-7)/0", "(0-7)%0", "7/(1-1)", "7%(1-1)", "7/harbour", "7%harbour"};
    for (String formula : formulas) Edge.due(10, formula, worthBy(formula), 0);
    Edge.due(10, "and on from there", worthBy("7/0+5"), 5);
    Object[][] rows = {{"7/1", 7}, {"7%1", 0}, {"7/2", 3}, {"7%2", 1}, {"(0-7)/2", -3}, {"(0-7)%2", -1}, {"7/(0-2)", -3}, {"7%(0-2)", 1},
      {"(0-7)/(0-2)", 3}, {"(0-7)%(0-2)", -1}, {"1/2", 0}, {"1%2", 1}, {"(0-1)/2", 0}, {"(0-1)%2", -1}, {"7/7", 1}, {"7%7", 0}, {"7/8", 0}, {"7%8", 7}};
    for (Object[] row : rows) Edge.due(10, "" + row[0], worthBy("" + row[0]), (Integer) row[1]);
  }

  private static void wrapping() {
    Edge.sentence("(0 at first; ints, wrapping;");
    Edge.due(10, "above the highest", worthBy("8192*8192*32-1+1-8192*8192*32"), 0);
    Edge.due(10, "the highest and 1 more is below 0", worthBy("8192*8192*32-1+1<0"), 1);
    Edge.due(10, "the lowest and 1 less is above 0", worthBy("8192*8192*32-1>0"), 1);
    Edge.due(10, "2 by 32 times is 0", worthBy("8192*8192*64"), 0);
    Edge.due(10, "the lowest by -1", worthBy("8192*8192*32/(0-1)"), -99999);
    Edge.due(10, "the lowest by -1: the rest", worthBy("8192*8192*32%(0-1)+3"), 3);
    Edge.due(10, "the lowest less itself", worthBy("0-8192*8192*32"), -99999);
    Edge.due(10, "65,537 by itself", worthBy("(8192*8+1)*(8192*8+1)-8192*16"), 1);
  }

  private static void truths() {
    Edge.sentence("relations, and, or, not are 1 or 0, of what is not 0)");
    Object[][] rows = {{"1<2", 1}, {"2<2", 0}, {"3<2", 0}, {"1>2", 0}, {"2>2", 0}, {"3>2", 1}, {"1=2", 0}, {"2=2", 1}, {"3=2", 0},
      {"7 and 8", 1}, {"7 and 0", 0}, {"0 and 8", 0}, {"0 and 0", 0}, {"1 and 2", 1}, {"2 and 4", 1}, {"7 or 8", 1}, {"7 or 0", 1}, {"0 or 8", 1}, {"0 or 0", 0},
      {"not 0", 1}, {"not 1", 0}, {"not 7", 0}, {"not not 7", 1}, {"not not 0", 0}, {"(0-1) and 1", 1}, {"0-1 or 0", 1}, {"not (0-1)", 0}, {"not 0-1", 0}, {"7", 7},
      {"(0-1)<0", 1}, {"0<(0-1)", 0}, {"0-1<0", 1}, {"not 1<0", 1}, {"not 0 and 0", 0}, {"not 0 or 1", 1}, {"1 or 1 and 0", 1}, {"0 and 1 or 1", 1}};
    for (Object[] row : rows) Edge.due(10, "" + row[0], worthBy("" + row[0]), (Integer) row[1]);
  }

  private static void lights() {
    Edge.sentence("by yield, belief (that COURT's of it), harbour (1 if it has one, else 0), garrison, price");
    String[] names = {"yield", "belief", "harbour", "garrison", "price"};
    int[][] due = {{99, 200, 1, 20, 9}, {0, 0, 0, 0, 1}, {99, 100, 1, 20, 9}, {0, 100, 0, 0, 1}};
    for (int i = 0; i < names.length; i++) {
      SpiceSwaps x = Due.told(TWO + "crop n price 9;place p of a yield 99 harbour grows n garrison 20;place q of a yield 0;believes a p 200;believes a q 0;worth " + names[i] + ";");
      Edge.due(10, names[i] + " of p to a", x.worth(0, 0), due[0][i]);
      Edge.due(10, names[i] + " of q to a", x.worth(0, 1), due[1][i]);
      Edge.due(10, names[i] + " of p to b", x.worth(1, 0), due[2][i]);
      Edge.due(10, names[i] + " of q to b", x.worth(1, 1), due[3][i]);
    }
    Edge.sentence("grow (0, if it is not told; belief 100; held: of its COURT)");
    int[] more = {9, 9, 1, 4, 3};
    for (int i = 0; i < names.length; i++) {
      SpiceSwaps x = Due.told(TWO + "crop n price 3;place p of a yield 50 harbour grows n garrison 4;place q of a yield 0;believes a p 5;grow " + names[i] + ";");
      x.year();
      Edge.due(14, "more by " + names[i], x.place(0, 1), 50 + more[i]);
      Edge.due(14, "more by none of it", x.place(1, 1), i == 1 ? 9 : i == 4 ? 1 : 0);
    }
  }

  private static void held() {
    Edge.sentence("held (how many PLACES that COURT holds)");
    StringBuilder text = new StringBuilder("court a gold 0;court b gold 0;worth held;");
    for (int i = 0; i < 7; i++) text.append("place ").append((char) ('a' + i)).append(" of a yield 1;");
    SpiceSwaps x = Due.told(text.toString());
    for (int n = 0; n <= 7; n++) {
      Edge.due(10, "a holds " + (7 - n), x.worth(0, 0), 7 - n);
      Edge.due(10, "b holds " + n, x.worth(1, 0), n);
      if (n < 7) x.cede(n, 1);
    }
  }

  private static void yearAtFirst() {
    Edge.sentence("year (0 at first;");
    SpiceSwaps x = Due.told(C + "place p of c yield 1;worth year;");
    for (int n = 0; n < 4; n++) {
      Edge.due(10, "year " + n, x.worth(0, 0), n);
      Edge.due(46, "about(3)", x.about(3), n);
      x.year();
    }
    x.undo();
    Edge.due(10, "a year taken back", x.worth(0, 0), 3);
  }

  // ---- what is asked of it

  private static void placeAsked() {
    Edge.sentence("5: EARNED next year; GAP if there is none such, or for another what.");
    Edge.beyond(6, "place", 0, (x, i) -> x.place(i, 0), GAP);
    Edge.beyond(6, "EARNED of place", 0, (x, i) -> x.place(i, 5), GAP);
    for (Edge.Made made : Edge.ALL) {
      for (int what : Edge.outside(6)) Edge.refused(6, "place(0, " + what + ")", made, x -> x.place(0, what), GAP);
      for (int what = 0; what < 6; what++) {
        int w = what;
        Edge.changesOnly(6, "place(0, " + w + ")", made, x -> x.place(0, w));
      }
    }
    SpiceSwaps x = Due.told(Edge.FULL);
    int[] first = {0, 99, 0, 0, 0, 445};
    int[] last = {2, 9, 2, 0, 20, 2};
    for (int w = 0; w < 6; w++) {
      Edge.due(6, "place(0, " + w + ")", x.place(0, w), first[w]);
      Edge.due(6, "place(6, " + w + ")", x.place(6, w), last[w]);
    }
    Edge.sentence("2: the CROP it grows (NONE), 3: 1 with a harbour, else 0");
    Edge.due(6, "none grows there", x.place(2, 2), NONE);
    Edge.due(6, "with a harbour", x.place(2, 3), 1);
  }

  private static void courtAsked() {
    Edge.sentence("3: WORTHS of these to it, together; GAP if there is none such, or for another what.");
    for (int w = 0; w < 4; w++) {
      int what = w;
      Edge.beyond(7, "court, what " + what, 1, (x, i) -> x.court(i, what), GAP);
    }
    for (Edge.Made made : Edge.ALL) {
      for (int what : Edge.outside(4)) Edge.refused(7, "court(0, " + what + ")", made, x -> x.court(0, what), GAP);
      for (int what = 0; what < 4; what++) {
        int w = what;
        Edge.changesOnly(7, "court(0, " + w + ")", made, x -> x.court(0, w));
      }
    }
    SpiceSwaps x = Due.told("court a gold 1;court b gold 2;court c gold 3;court d gold 4;place p of a yield 7;");
    int[][] due = {{1, 1, 7, 7}, {2, 0, 0, 0}, {3, 0, 0, 0}, {4, 0, 0, 0}};
    for (int c = 0; c < 4; c++) for (int w = 0; w < 4; w++) Edge.due(7, "court(" + c + ", " + w + ")", x.court(c, w), due[c][w]);
  }

  private static void cropAsked() {
    Edge.sentence("2: PLACES that do, both as bits; NONE if there is none such, or for another what.");
    for (int w = 0; w < 3; w++) {
      int what = w;
      Edge.beyond(8, "crop, what " + what, 2, (x, i) -> x.crop(i, what), NONE);
    }
    for (Edge.Made made : Edge.ALL) {
      for (int what : Edge.outside(3)) Edge.refused(8, "crop(0, " + what + ")", made, x -> x.crop(0, what), NONE);
      for (int what = 0; what < 3; what++) {
        int w = what;
        Edge.changesOnly(8, "crop(0, " + w + ")", made, x -> x.crop(0, w));
      }
    }
    SpiceSwaps x = Due.told(Edge.FULL);
    int[][] due = {{9, 3, 3}, {1, 8, 8}, {5, 5, 80}};
    for (int k = 0; k < 3; k++) for (int w = 0; w < 3; w++) Edge.due(8, "crop(" + k + ", " + w + ")", x.crop(k, w), due[k][w]);
  }

  private static void beliefAsked() {
    Edge.sentence("What a COURT believes of a PLACE; NONE if one can't be.");
    Edge.beyond(9, "belief, court", 1, (x, i) -> x.belief(i, 0), NONE);
    Edge.beyond(9, "belief, place", 0, (x, i) -> x.belief(0, i), NONE);
    Edge.beyond(9, "belief, both", 0, (x, i) -> x.belief(i, i), NONE);
    SpiceSwaps x = Due.told(Edge.FULL);
    Edge.due(9, "the first of the first", x.belief(0, 0), 100);
    Edge.due(9, "the last of the last", x.belief(3, 6), 150);
    Edge.due(9, "the last of the first", x.belief(3, 0), 100);
    Edge.due(9, "the first of the last", x.belief(0, 6), 100);
  }

  private static void worthAsked() {
    Edge.sentence("WORTH; GAP if one can't be.");
    Edge.beyond(10, "worth, court", 1, (x, i) -> x.worth(i, 0), GAP);
    Edge.beyond(10, "worth, place", 0, (x, i) -> x.worth(0, i), GAP);
    Edge.beyond(10, "worth, both", 0, (x, i) -> x.worth(i, i), GAP);
    SpiceSwaps x = Due.told(Edge.FULL);
    Edge.due(10, "the last of the last", x.worth(3, 6), 150 * 10 % 97);
    Edge.due(10, "the first of the first", x.worth(0, 0), 100 * 100 % 97);
  }

  // ---- a year

  private static void goldBelowZero() {
    Edge.sentence("each COURT has so much more gold as all its PLACES EARNED (it may be below 0);");
    SpiceSwaps x = Due.told("court a gold 20;court b gold 19;court c gold 5;place p of a yield 0 garrison 20;place q of b yield 0 garrison 20;");
    Edge.due(14, "what all EARNED", x.year(), -40);
    Edge.due(14, "gold of 0", x.court(0, 0), 0);
    Edge.due(14, "gold below 0", x.court(1, 0), -1);
    Edge.due(14, "one that holds none", x.court(2, 0), 5);
    x.year();
    Edge.due(14, "and farther", x.court(1, 0), -21);
  }

  private static int yieldBehind(int yield, String grow) {
    SpiceSwaps x = Due.told(C + "place p of c yield " + yield + ";grow " + grow + ";");
    x.year();
    return x.place(0, 1);
  }

  private static void grownBy() {
    Edge.sentence("-9 at least, 9 at most (0 .. 99 in all);");
    int[] more = {0, 1, 8, 9, 10, 11, 9999};
    for (int n : more) {
      Edge.due(14, "more by " + n, yieldBehind(50, "" + n), 50 + Math.min(9, n));
      Edge.due(14, "less by " + n, yieldBehind(50, "0-" + n), 50 - Math.min(9, n));
    }
    Edge.due(14, "more by the most", yieldBehind(50, "8192*8192*32-1"), 59);
    Edge.due(14, "less by the most", yieldBehind(50, "8192*8192*32"), 41);
    Edge.sentence("grow (0, if it is not told; belief 100; held: of its COURT)");
    SpiceSwaps x = Due.told(C + "place p of c yield 50;");
    x.year();
    Edge.due(14, "not told", x.place(0, 1), 50);
    SpiceSwaps y = Due.told(TWO + "place p of a yield 50;place q of b yield 50;place r of b yield 50;believes a p 5;believes b p 6;grow held + (belief = 100) * 5;");
    y.year();
    Edge.due(14, "held by a", y.place(0, 1), 56);
    Edge.due(14, "held by b", y.place(1, 1), 57);
  }

  private static void yieldLimits() {
    Edge.sentence("(0 .. 99 in all);");
    for (int up = 0; up <= 9; up++) {
      for (int yield : new int[] {89, 90, 91, 98, 99}) Edge.due(14, yield + " more by " + up, yieldBehind(yield, "" + up), Math.min(99, yield + up));
      for (int yield : new int[] {0, 1, 8, 9, 10}) Edge.due(14, yield + " less by " + up, yieldBehind(yield, "0-" + up), Math.max(0, yield - up));
    }
  }

  private static void growByWhatIsSo() {
    Edge.sentence("all by what is so ahead of this");
    SpiceSwaps x = Due.told(C + "place p of c yield 5;place q of c yield 7;grow year * 3 + yield - 4;");
    Edge.due(14, "EARNED ahead of growing", x.year(), 12);
    Edge.due(14, "by the year that was: p", x.place(0, 1), 6);
    Edge.due(14, "by the year that was: q", x.place(1, 1), 10);
    Edge.due(14, "EARNED then", x.year(), 16);
    Edge.due(14, "p then", x.place(0, 1), 11);
    Edge.due(14, "q then", x.place(1, 1), 19);
  }

  private static void seedsDrawn() {
    Edge.sentence("the SEED (draw, at first) becomes its 137-fold and 71 more, modulo 1,000;");
    int[][] rows = {{0, 71}, {1, 208}, {6, 893}, {7, 30}, {817, 0}, {998, 797}, {999, 934}, {500, 571}};
    for (int[] row : rows) {
      SpiceSwaps x = Due.told("draw " + row[0] + ";");
      Edge.due(46, "at first", x.about(4), row[0]);
      x.year();
      Edge.due(14, "the seed behind " + row[0], x.about(4), row[1]);
    }
  }

  private static void stormOrNot() {
    Edge.sentence("if its rest by 100 is less than storm tells");
    // Seeds become 0, 400, 71, 571, 99, 799.
    int[][] rows = {{817, 0}, {17, 0}, {0, 71}, {500, 71}, {44, 99}, {144, 99}};
    for (int[] row : rows) {
      for (int storm : new int[] {0, 1, row[1], row[1] + 1, 99, 100}) {
        if (storm > 100) continue;
        SpiceSwaps x = Due.told(C + "place p of c yield 9;draw " + row[0] + ";storm " + storm + " of 1;");
        x.year();
        Edge.due(46, "the rest of the seed", x.about(4) % 100, row[1]);
        Edge.due(14, "rest " + row[1] + ", storm " + storm, x.place(0, 1), row[1] < storm ? 8 : 9);
      }
    }
  }

  private static void stormLoss() {
    Edge.sentence("has so much less yield as is told (0 at least);");
    for (int loss : new int[] {1, 8, 9, 10, 98, 99}) {
      SpiceSwaps x = Due.told(C + "place p of c yield 9;storm 100 of " + loss + ";");
      Edge.due(14, "EARNED ahead of the storm", x.year(), 9);
      Edge.due(14, "9 less " + loss, x.place(0, 1), Math.max(0, 9 - loss));
    }
    SpiceSwaps x = Due.told(C + "place p of c yield 99;storm 100 of 99;");
    x.year();
    Edge.due(14, "99 less 99", x.place(0, 1), 0);
    SpiceSwaps y = Due.told(C + "place p of c yield 98;storm 100 of 1;grow 9;");
    y.year();
    Edge.due(14, "99 in all ahead of the storm", y.place(0, 1), 98);
    SpiceSwaps z = Due.told(C + "place p of c yield 3;storm 100 of 5;grow 0-9;");
    z.year();
    Edge.due(14, "0 ahead of the storm and behind it", z.place(0, 1), 0);
  }

  private static void whichPlace() {
    Edge.sentence("the PLACE of its rest by how many there are");
    StringBuilder text = new StringBuilder(C + "storm 100 of 1;");
    for (int places = 1; places <= 7; places++) {
      text.append("place ").append((char) ('a' + places)).append(" of c yield 50;");
      boolean[] hit = new boolean[7];
      for (int draw = 0; draw < 30; draw++) {
        SpiceSwaps x = Due.told(text + "draw " + draw + ";");
        x.year();
        int due = (draw * 137 + 71) % 1000 % places;
        for (int p = 0; p < places; p++) Edge.due(14, "place " + p + " of " + places + ", draw " + draw, x.place(p, 1), p == due ? 49 : 50);
        hit[due] = true;
      }
      Edge.due(14, "the first was hit", hit[0], true);
      Edge.due(14, "the last was hit", hit[places - 1], true);
    }
    SpiceSwaps none = Due.told("court c gold 3;storm 100 of 9;");
    Edge.due(14, "a storm where no place is", none.year(), 0);
    Edge.due(14, "the seed all the same", none.about(4), 71);
    Edge.due(14, "the year all the same", none.about(3), 1);
  }

  // ---- acts

  private static void swapRefused() {
    Edge.sentence("Two PLACES are swapped: true; false, doing nothing, if one COURT holds both, or one can't be.");
    Edge.beyond(11, "swap, the first", 0, (x, i) -> Edge.bit(x.swap(i, 0)), 0);
    Edge.beyond(11, "swap, the other", 0, (x, i) -> Edge.bit(x.swap(0, i)), 0);
    Edge.beyond(11, "swap, both", 0, (x, i) -> Edge.bit(x.swap(i, i)), 0);
    for (Edge.Made made : Edge.ALL) {
      int places = made.make().about(0);
      for (int p = 0; p < places; p++) {
        for (int q = 0; q < places; q++) {
          int one = p;
          int other = q;
          SpiceSwaps x = made.make();
          int holder = x.place(p, 0);
          int otherHolder = x.place(q, 0);
          if (holder == otherHolder) {
            Edge.refused(11, "swap(" + p + ", " + q + ") of one court", made, y -> Edge.bit(y.swap(one, other)), 0);
          } else {
            Edge.due(11, "swap(" + p + ", " + q + ")", x.swap(p, q), true);
            Edge.due(11, "the other's now", x.place(p, 0), otherHolder);
            Edge.due(11, "the one's now", x.place(q, 0), holder);
          }
        }
      }
    }
  }

  private static void cedeRefused() {
    Edge.sentence("A PLACE is ceded: which COURT held it; NONE, doing nothing, if it is the same, or one can't be.");
    Edge.beyond(12, "cede, place", 0, (x, i) -> x.cede(i, 0), NONE);
    Edge.beyond(12, "cede, place", 0, (x, i) -> x.cede(i, 1), NONE);
    Edge.beyond(12, "cede, court", 1, (x, i) -> x.cede(0, i), NONE);
    Edge.beyond(12, "cede, both", 0, (x, i) -> x.cede(i, i), NONE);
    for (Edge.Made made : Edge.ALL) {
      int places = made.make().about(0);
      int courts = made.make().about(1);
      for (int p = 0; p < places; p++) {
        for (int c = 0; c < courts; c++) {
          int place = p;
          int court = c;
          SpiceSwaps x = made.make();
          int holder = x.place(p, 0);
          if (holder == c) {
            Edge.refused(12, "cede(" + p + ", " + c + ") to the same", made, y -> y.cede(place, court), NONE);
          } else {
            Edge.due(12, "cede(" + p + ", " + c + ")", x.cede(p, c), holder);
            Edge.due(12, "held then by", x.place(p, 0), c);
          }
        }
      }
    }
  }

  private static void carryRefused() {
    Edge.sentence("A CROP is carried to a PLACE: how many COURTS grow it then; NONE, doing nothing, if it can't be, or one can't be.");
    Edge.beyond(13, "carry, crop", 2, (x, i) -> x.carry(i, 2), NONE);
    Edge.beyond(13, "carry, place", 0, (x, i) -> x.carry(0, i), NONE);
    Edge.beyond(13, "carry, both", 0, (x, i) -> x.carry(i, i), NONE);
    Edge.sentence("a CROP is carried to a PLACE that grows none, if the COURT that holds it holds one that grows that CROP;");
    int refused = 0;
    int done = 0;
    for (Edge.Made made : Edge.ALL) {
      int places = made.make().about(0);
      int crops = made.make().about(2);
      for (int k = 0; k < crops; k++) {
        for (int p = 0; p < places; p++) {
          int crop = k;
          int place = p;
          SpiceSwaps x = made.make();
          boolean grows = (x.crop(k, 1) >> x.place(p, 0) & 1) != 0;
          if (x.place(p, 2) != NONE || !grows) {
            refused++;
            Edge.refused(13, "carry(" + k + ", " + p + ")", made, y -> y.carry(crop, place), NONE);
          } else {
            done++;
            int courts = Integer.bitCount(x.crop(k, 1));
            Edge.due(13, "carry(" + k + ", " + p + ")", x.carry(k, p), courts);
            Edge.due(13, "it grows there", x.place(p, 2), k);
            Edge.due(13, "no court more", Integer.bitCount(x.crop(k, 1)), courts);
          }
        }
      }
    }
    Edge.due(13, "some were refused, some done", refused > 3 && done > 1, true);
    SpiceSwaps x = Due.told(TWO + "crop n price 2;crop m price 2;place p of a yield 1 grows n;place q of a yield 1;place r of b yield 1;place s of b yield 1 grows m;");
    Edge.due(13, "to one's own", x.carry(0, 1), 1);
    Edge.due(13, "to one that grows the same", x.carry(0, 1), NONE);
    Edge.due(13, "to one that grows another", x.carry(1, 1), NONE);
    Edge.due(13, "by one that grows another", x.carry(0, 2), NONE);
    x.swap(0, 2);
    Edge.due(13, "by the one that got one", x.carry(0, 3), NONE);
    Edge.due(13, "to the one that was given for it", x.carry(0, 2), 2);
  }

  private static void yearRefused() {
    Edge.sentence("A YEAR: what all EARNED together; GAP, doing nothing, behind 999 of them.");
    SpiceSwaps x = Due.told(C + "place p of c yield 1;grow year = 998;draw 5;");
    for (int i = 1; i <= 998; i++) x.year();
    Edge.due(14, "year 998", x.about(3), 998);
    Edge.due(14, "the 999th", x.year(), 1);
    Edge.due(14, "grown in it", x.place(0, 1), 2);
    Edge.due(14, "year 999", x.about(3), 999);
    int seed = x.about(4);
    Edge.due(14, "the 1,000th", x.year(), GAP);
    Edge.due(14, "the year then", x.about(3), 999);
    Edge.due(14, "the seed then", x.about(4), seed);
    Edge.due(14, "gold then", x.court(0, 0), 999);
    Edge.due(14, "acts then", x.about(6), 40);
    Edge.due(15, "undo", x.undo(), true);
    Edge.due(14, "one less can be gone again", x.about(3), 998);
    Edge.due(14, "acts that can be done again", x.about(7), 1);
    Edge.due(16, "redo to the last", x.redo(), true);
    Edge.due(14, "no farther", x.year(), GAP);
    x.undo();
    Edge.due(14, "another 999th", x.year(), 1);
    Edge.due(14, "no farther then", x.year(), GAP);
    Edge.due(44, "image of the last", x.image(0), 999);
    x.undo();
    x.undo();
    Edge.due(45, "back to the last", x.back(0), 999);
    Edge.due(14, "no farther behind back", x.year(), GAP);
    Edge.due(14, "no act by it", x.about(6), 0);
    Edge.sentence("(ahead as told, beyond year 999, too; so in all that looks ahead)");
    Edge.due(30, "gold farther on", x.will(0, 60), 999 + 60 * 2);
    Edge.due(32, "yields farther on", x.grown(0, 60), 2);
    Edge.due(33, "the richest farther on", x.richest(60), 0);
    SpiceSwaps y = Due.told("court c gold 999;place p of c yield 1 garrison 1;grow 0-(year>999);draw 5;");
    for (int i = 0; i < 999; i++) y.year();
    // Yield 1 is earned behind 999 + 2 years still, then 1 less a year.
    Edge.due(32, "yield behind 1", y.grown(0, 1), 1);
    Edge.due(32, "yield behind 2", y.grown(0, 2), 0);
    Edge.due(30, "gold behind 2", y.will(0, 2), 999);
    Edge.due(30, "gold behind 3", y.will(0, 3), 998);
    Edge.due(31, "not within 60", y.ruin(0), NONE);
    Edge.due(46, "and the year is as it was", y.about(3), 999);
  }

  // ---- undo and redo

  private static void undoNone() {
    Edge.sentence("UNDO: true; false if there is none.");
    for (Edge.Made made : new Edge.Made[] {Edge::empty, () -> Due.told(Edge.BUSY), () -> Due.told(Edge.FULL)}) {
      Edge.refused(15, "undo() of no act", made, x -> Edge.bit(x.undo()), 0);
    }
    Edge.Made undone = () -> {
      SpiceSwaps x = Due.told(Edge.BUSY);
      x.year();
      x.undo();
      return x;
    };
    Edge.refused(15, "undo() when all are undone", undone, x -> Edge.bit(x.undo()), 0);
    Edge.Made back = () -> {
      SpiceSwaps x = Edge.busy();
      x.back(0);
      return x;
    };
    Edge.refused(15, "undo() behind back", back, x -> Edge.bit(x.undo()), 0);
    Edge.refused(16, "redo() behind back", back, x -> Edge.bit(x.redo()), 0);
    SpiceSwaps x = Due.told(TWO + "place p of a yield 1;");
    x.cede(0, 1);
    Edge.due(15, "one act", x.undo(), true);
    Edge.due(15, "no more", x.undo(), false);
  }

  private static void redoNone() {
    Edge.sentence("REDO: true; false if there is none.");
    Edge.Made done = () -> {
      SpiceSwaps x = Due.told(Edge.BUSY);
      x.year();
      x.cede(0, 1);
      return x;
    };
    for (Edge.Made made : new Edge.Made[] {Edge::empty, () -> Due.told(Edge.FULL), done}) {
      Edge.refused(16, "redo() of none taken back", made, x -> Edge.bit(x.redo()), 0);
    }
    Edge.Made redone = () -> {
      SpiceSwaps x = done.make();
      x.undo();
      x.redo();
      return x;
    };
    Edge.refused(16, "redo() when all are done again", redone, x -> Edge.bit(x.redo()), 0);
    Edge.changesOnly(16, "undo() and redo()", done, x -> {
      x.undo();
      x.undo();
      x.redo();
      x.redo();
      return 0;
    });
  }

  private static void redoTillAnotherAct() {
    Edge.sentence("REDO does that again which was taken back last (till another ACT);");
    for (int act = 0; act < 4; act++) {
      SpiceSwaps x = Due.told(TWO + "crop n price 2;place p of a yield 1 grows n;place q of a yield 1;place r of b yield 1;");
      x.cede(2, 0);
      x.year();
      x.undo();
      x.undo();
      Edge.due(46, "two can be redone", x.about(7), 2);
      x.swap(0, 1);
      x.cede(0, 0);
      x.carry(0, 2);
      x.back(0);
      Edge.due(46, "refused acts take none of them", x.about(7), 2);
      if (act == 0) Edge.due(11, "swap", x.swap(0, 2), true);
      if (act == 1) Edge.due(12, "cede", x.cede(0, 1), 0);
      if (act == 2) Edge.due(13, "carry", x.carry(0, 1), 1);
      if (act == 3) Edge.due(14, "year", x.year(), 4);
      Edge.due(46, "none can be redone behind act " + act, x.about(7), 0);
      Edge.due(16, "redo", x.redo(), false);
      Edge.due(46, "one can be undone", x.about(6), 1);
      Edge.due(15, "undo", x.undo(), true);
      Edge.due(46, "one can be redone", x.about(7), 1);
    }
    // What was taken back last comes first.
    SpiceSwaps y = Due.told("court a gold 0;court b gold 0;court c gold 0;place p of a yield 1;");
    y.cede(0, 1);
    y.cede(0, 2);
    y.undo();
    y.undo();
    y.redo();
    Edge.due(16, "the one that was taken back last", y.place(0, 0), 1);
    y.redo();
    Edge.due(16, "then the one ahead of it", y.place(0, 0), 2);
  }

  private static void fortyAreKept() {
    Edge.sentence("40 at most are kept, the oldest go.");
    for (int acts : new int[] {39, 40, 41, 42, 80, 81, 82, 83, 123}) {
      SpiceSwaps x = Due.told(C + "place p of c yield 1;");
      for (int i = 0; i < acts; i++) x.year();
      int kept = Math.min(40, acts);
      Edge.due(46, "kept of " + acts, x.about(6), kept);
      for (int i = 1; i <= kept; i++) {
        Edge.due(15, "undo " + i + " of " + acts, x.undo(), true);
        Edge.due(15, "the year then", x.about(3), acts - i);
        Edge.due(15, "gold then", x.court(0, 0), acts - i);
      }
      Edge.due(15, "undo of one that went", x.undo(), false);
      Edge.due(15, "the year stays", x.about(3), acts - kept);
      Edge.due(46, "can be redone", x.about(7), kept);
      for (int i = 1; i <= kept; i++) {
        Edge.due(16, "redo " + i + " of " + acts, x.redo(), true);
        Edge.due(16, "the year again", x.about(3), acts - kept + i);
      }
      Edge.due(16, "redo of none", x.redo(), false);
      Edge.due(46, "can be undone again", x.about(6), kept);
    }
  }

  private static void fortyRound() {
    Edge.sentence("UNDO takes back the latest ACT that was not,");
    // Behind 40 that are kept, some taken back: as many new ones as are free put none out, one more does.
    for (int back = 0; back <= 40; back += 8) {
      SpiceSwaps x = Due.told(C + "place p of c yield 1;");
      for (int i = 0; i < 45; i++) x.year();
      for (int i = 0; i < back; i++) x.undo();
      Edge.due(46, "left of 40", x.about(6), 40 - back);
      for (int i = 0; i < back; i++) x.year();
      Edge.due(46, "40 again", x.about(6), 40);
      x.year();
      Edge.due(46, "and no more", x.about(6), 40);
      for (int i = 0; i < 40; i++) x.undo();
      Edge.due(15, "the oldest that is kept", x.about(3), 6);
      Edge.due(15, "its gold", x.court(0, 0), 6);
      Edge.due(15, "none ahead of it", x.undo(), false);
    }
    SpiceSwaps y = Due.told("court a gold 0;court b gold 0;court c gold 0;place p of a yield 1;");
    for (int i = 1; i <= 50; i++) y.cede(0, i % 3);
    for (int i = 49; i >= 10; i--) {
      y.undo();
      Edge.due(15, "who held it behind " + i, y.place(0, 0), i % 3);
    }
    Edge.due(15, "no farther", y.undo(), false);
  }
}
