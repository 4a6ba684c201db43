/** ==== 3.: every sentence on swaps, rings, parts, lots, seeds and years to come that names a boundary case (promises 17 to 34). */
public final class EdgeBargainTest {
  private static final int NONE = Edge.NONE;
  private static final int GAP = Edge.GAP;
  private static final String TWO = "court a gold 0;court b gold 0;";

  public static void main(String[] args) {
    nothingIsDone();
    gainAsked();
    gainByHeldNow();
    bestAsked();
    neitherBelowZero();
    mostTogether();
    theFirstSwap();
    swapsCounted();
    haggleAboveZero();
    haggleLies();
    haggleLong();
    enviesMore();
    portsHeld();
    ringNone();
    ringBelowZero();
    ringOrders();
    ringFewest();
    ringFewestLater();
    ringFirst();
    dearFirst();
    misheldMore();
    divideAsked();
    divideSets();
    divideLikeOnes();
    lotsAsked();
    lotsEnough();
    lotsLikeOnes();
    seedsAsked();
    seedsMost();
    leakAsked();
    leakOthers();
    willYears();
    ruinYears();
    grownYears();
    richestYears();
    oddsAsked();
    oddsLowest();
    Edge.end("EdgeBargainTest", 17, 34);
  }

  private static void lies(int promise, String what, SpiceSwaps x, int... want) {
    Edge.due(46, what + ": numbers that lie there", x.about(12), want.length);
    for (int i = 0; i < want.length; i++) Edge.due(promise, what + ": lies(" + i + ")", x.lies(i), want[i]);
    Edge.due(35, what + ": behind the last", x.lies(want.length), -2);
  }

  /** Each place is of a court, and worth to each court what stands in its row. */
  private static SpiceSwaps table(String holders, int[]... rows) {
    StringBuilder text = new StringBuilder("worth belief - 100;");
    for (int c = 0; c < rows.length; c++) text.append("court ").append((char) ('a' + c)).append(" gold 0;");
    for (int p = 0; p < holders.length(); p++) text.append("place ").append((char) ('p' + p)).append(" of ").append(holders.charAt(p)).append(" yield 1;");
    for (int c = 0; c < rows.length; c++) {
      for (int p = 0; p < holders.length(); p++) {
        text.append("believes ").append((char) ('a' + c)).append(' ').append((char) ('p' + p)).append(' ').append(100 + rows[c][p]).append(';');
      }
    }
    return Due.told(text.toString());
  }

  private static int[] row(int... worths) {
    return worths;
  }

  private static void nothingIsDone() {
    Edge.sentence("(By what is now; nothing is done; held as it is now.)");
    for (Edge.Made made : Edge.ALL) {
      for (int i = 0; i < 3; i++) {
        int n = i;
        Edge.changesOnly(17, "gain", made, x -> x.gain(n, n + 1));
        Edge.changesOnly(18, "best", made, x -> x.best(n));
        Edge.changesOnly(21, "envies", made, x -> x.envies(n));
        Edge.changesOnly(22, "ports", made, x -> x.ports(n));
        Edge.changesOnly(26, "divide", made, x -> x.divide(0, 1, 31, n));
        Edge.changesOnly(27, "lots", made, x -> x.lots(n, (n + 1) % 3, 5, n));
        Edge.changesOnly(28, "seeds", made, x -> x.seeds(n, 0, n % 2));
        Edge.changesOnly(29, "leak", made, x -> x.leak(n % 2, 2 + n));
        Edge.changesOnly(30, "will", made, x -> x.will(n, 60));
        Edge.changesOnly(31, "ruin", made, x -> x.ruin(n));
        Edge.changesOnly(32, "grown", made, x -> x.grown(n, 60));
        Edge.changesOnly(33, "richest", made, x -> x.richest(20 * n));
        Edge.changesOnly(34, "odds", made, x -> x.odds(n + 1, n % 2));
      }
      Edge.changesOnly(19, "swaps", made, x -> x.swaps());
      Edge.changesOnly(25, "misheld", made, x -> x.misheld());
      Edge.changesOnly(20, "haggle", made, x -> x.haggle(), "lies(", "about(12)");
      Edge.changesOnly(23, "ring", made, x -> x.ring(), "lies(", "about(12)");
      Edge.changesOnly(24, "dear", made, x -> x.dear(), "lies(", "about(12)");
    }
  }

  // ---- swaps

  private static void gainAsked() {
    Edge.sentence("if it were swapped for another one; GAP if one COURT holds both, or one can't be.");
    Edge.beyond(17, "gain, the first", 0, (x, i) -> x.gain(i, 0), GAP);
    Edge.beyond(17, "gain, the other", 0, (x, i) -> x.gain(0, i), GAP);
    Edge.beyond(17, "gain, both", 0, (x, i) -> x.gain(i, i), GAP);
    for (Edge.Made made : new Edge.Made[] {Edge::busy, Edge::full}) {
      SpiceSwaps x = made.make();
      for (int p = 0; p < x.about(0); p++) {
        for (int q = 0; q < x.about(0); q++) {
          int court = x.place(p, 0);
          int due = court == x.place(q, 0) ? GAP : x.worth(court, q) - x.worth(court, p);
          Edge.due(17, "gain(" + p + ", " + q + ")", x.gain(p, q), due);
        }
      }
    }
  }

  private static void gainByHeldNow() {
    Edge.sentence("GAIN of a COURT by a swap: WORTH of what it gets less that of what it gives.");
    SpiceSwaps x = table("ab", row(1, 1), row(-100, 100));
    Edge.due(17, "as much", x.gain(0, 1), 0);
    Edge.due(17, "the most less the least", x.gain(1, 0), -200);
    SpiceSwaps y = table("ab", row(0, 1), row(0, 1));
    Edge.due(17, "1 more", y.gain(0, 1), 1);
    Edge.due(17, "1 less", y.gain(1, 0), -1);
  }

  private static void bestAsked() {
    Edge.sentence("1: the lower PLACE, 2: the other one; GAP if there is none, or for another what.");
    Edge.from(3, 18, "best", (x, i) -> x.best(i), GAP);
    SpiceSwaps there = table("ab", row(0, 1), row(1, 0));
    for (int what : Edge.outside(3)) Edge.due(18, "best(" + what + ") where there is one", there.best(what), GAP);
    int[] due = {2, 0, 1};
    for (int w = 0; w < 3; w++) Edge.due(18, "best(" + w + ")", there.best(w), due[w]);
    SpiceSwaps[] none = {new SpiceSwaps(), Due.told("court a gold 0;"), table("a", row(5)), table("aaaaaaa", row(1, 2, 3, 4, 5, 6, 7), row(7, 6, 5, 4, 3, 2, 1)), table("ab", row(0, 0), row(0, 1))};
    for (SpiceSwaps x : none) for (int w = 0; w < 3; w++) Edge.due(18, "best(" + w + ") of none", x.best(w), GAP);
  }

  private static void neitherBelowZero() {
    Edge.sentence("by whose swap neither GAIN is below 0");
    // The first one's gain, the other's gain, and whether that is a swap.
    int[][] rows = {{0, 0, 1}, {1, 0, 1}, {0, 1, 1}, {-1, 0, 0}, {0, -1, 0}, {-1, 100, 0}, {100, -1, 0}, {-1, -1, 0}, {100, 100, 1}};
    for (int[] gains : rows) {
      SpiceSwaps x = table("ab", row(0, gains[0]), row(gains[1], 0));
      boolean is = gains[2] == 1;
      Edge.due(18, "gains " + gains[0] + " and " + gains[1], x.best(0), is ? gains[0] + gains[1] : GAP);
      Edge.due(18, "the lower one", x.best(1), is ? 0 : GAP);
      Edge.due(18, "the other one", x.best(2), is ? 1 : GAP);
      Edge.due(19, "swaps", x.swaps(), gains[2]);
    }
  }

  private static void mostTogether() {
    Edge.sentence("and both together are most;");
    // a's p for b's q gains 3 and 3, for c's r 0 and 7: together 7 is more than 6, though one gains nothing.
    SpiceSwaps x = table("abc", row(0, 3, 0), row(3, 0, -9), row(7, -9, 0));
    Edge.due(18, "together", x.best(0), 7);
    Edge.due(18, "the lower", x.best(1), 0);
    Edge.due(18, "the other", x.best(2), 2);
    SpiceSwaps y = table("abc", row(0, 3, 0), row(4, 0, -9), row(6, -9, 0));
    Edge.due(18, "one more than the other", y.best(0), 7);
    Edge.due(18, "its other place", y.best(2), 1);
    // What is of like courts is not swapped, however much it were worth.
    SpiceSwaps z = table("aab", row(0, 90, 1), row(1, -9, 0));
    Edge.due(18, "of unlike courts", z.best(0), 2);
    Edge.due(18, "the one of the other court", z.best(2), 2);
  }

  private static void theFirstSwap() {
    Edge.sentence("of like ones the first (the lower one first).");
    int[] zero = {0, 0, 0, 0, 0, 0, 0};
    String[] holders = {"abababa", "aabbccd", "aaaaaab", "abbbbbb", "aaabbbb", "ddddddc"};
    int[] others = {1, 2, 6, 1, 3, 6};
    for (int i = 0; i < holders.length; i++) {
      SpiceSwaps x = table(holders[i], zero, zero, zero, zero);
      Edge.due(18, "best of " + holders[i], x.best(0), 0);
      Edge.due(18, "the lower of " + holders[i], x.best(1), 0);
      Edge.due(18, "the other of " + holders[i], x.best(2), others[i]);
    }
    // p for s, q for r and q for s gain alike: p is lower; q for r comes first only if it gains more.
    SpiceSwaps like = table("aabb", row(0, 1, 3, 2), row(0, 1, 1, 0));
    Edge.due(18, "p for s", like.best(1) * 10 + like.best(2), 3);
    SpiceSwaps more = table("aabb", row(0, 1, 4, 2), row(0, 1, 1, 0));
    Edge.due(18, "q for r, which gains one more", more.best(1) * 10 + more.best(2), 12);
  }

  private static void swapsCounted() {
    Edge.sentence("How many twos of PLACES could be swapped so that neither GAIN is below 0.");
    int[] zero = {0, 0, 0, 0, 0, 0, 0};
    Edge.due(19, "all of unlike courts", table("aabbccd", zero, zero, zero, zero).swaps(), 18);
    Edge.due(19, "one against six", table("aaaaaab", zero, zero).swaps(), 6);
    Edge.due(19, "of one court", table("aaaaaaa", zero, zero).swaps(), 0);
    Edge.due(19, "no places", new SpiceSwaps().swaps(), 0);
    Edge.due(19, "one place", table("a", row(1)).swaps(), 0);
    Edge.due(19, "none that is not below 0", table("ab", row(0, 1), row(0, 1)).swaps(), 0);
  }

  // ---- haggling

  private static void haggleAboveZero() {
    Edge.sentence("as long as both GAINS together are above 0;");
    Edge.due(20, "gains of 0", table("ab", row(0, 0), row(0, 0)).haggle(), 0);
    Edge.due(20, "a gain of 1", table("ab", row(0, 1), row(0, 0)).haggle(), 1);
    Edge.due(20, "a gain of 1 for the other", table("ab", row(0, 0), row(1, 0)).haggle(), 1);
    Edge.due(20, "more for one, less for the other", table("ab", row(0, 9), row(-1, 0)).haggle(), 0);
    Edge.due(20, "no places", new SpiceSwaps().haggle(), 0);
    Edge.due(20, "no courts but one", table("aaa", row(1, 2, 3)).haggle(), 0);
    // Behind the first swap another one gains, which did not ahead of it.
    SpiceSwaps x = table("abc", row(0, 1, 2), row(5, 0, -5), row(-5, -1, 0));
    Edge.due(20, "one by one", x.haggle(), 1);
    lies(20, "one by one", x, 1, 0, 2);
    SpiceSwaps y = table("abc", row(0, 1, 2), row(5, 0, -5), row(-5, 9, 0));
    Edge.due(20, "as all is held then", y.haggle(), 2);
    lies(20, "as all is held then", y, 1, 2, 0);
  }

  private static void haggleLies() {
    Edge.sentence("Who holds each PLACE then lies there (behind NONE: nothing).");
    SpiceSwaps x = table("aabbccd", row(0, 0, 0, 0, 0, 0, 0), row(0, 0, 0, 0, 0, 0, 0), row(0, 0, 0, 0, 0, 0, 0), row(0, 0, 0, 0, 0, 0, 0));
    Edge.due(20, "no swaps", x.haggle(), 0);
    lies(20, "as it is held now", x, 0, 0, 1, 1, 2, 2, 3);
    SpiceSwaps none = new SpiceSwaps();
    Edge.due(20, "no places", none.haggle(), 0);
    lies(20, "no places", none);
    SpiceSwaps one = table("ab", row(0, 1), row(1, 0));
    one.dear();
    Edge.due(20, "one swap", one.haggle(), 1);
    lies(20, "swapped", one, 1, 0);
    Edge.due(20, "again, from what is now", one.haggle(), 1);
    lies(20, "swapped again from what is now", one, 1, 0);
  }

  // The longest that a long search found are fifteen swaps: NONE, if 20 are not enough, has no test.
  private static void haggleLong() {
    Edge.sentence("How many swaps are made, one by one, each that of SWAP as all is held then");
    SpiceSwaps x = table("bddbcaa", row(7, 80, 75, 85, 85, 7, 77), row(49, 31, 57, 17, -12, 46, 57), row(85, 85, 7, 85, -97, 61, 85), row(100, 72, -72, 94, 76, 100, 75));
    SpiceSwaps y = table("bddbcaa", row(7, 80, 75, 85, 85, 7, 77), row(49, 31, 57, 17, -12, 46, 57), row(85, 85, 7, 85, -97, 61, 85), row(100, 72, -72, 94, 76, 100, 75));
    int made = 0;
    while (made < 100 && y.best(0) > 0) {
      y.swap(y.best(1), y.best(2));
      made++;
    }
    Edge.due(20, "by hand", made, 15);
    Edge.due(20, "at once", x.haggle(), 15);
    for (int p = 0; p < 7; p++) Edge.due(20, "who holds " + p, x.lies(p), y.place(p, 0));
  }

  // ---- envies, ports

  private static void enviesMore() {
    Edge.sentence("COURTS whose PLACES together are WORTH more to a COURT than its own together, as bits; NONE if there is none such.");
    Edge.beyond(21, "envies", 1, (x, i) -> x.envies(i), NONE);
    Edge.due(21, "as much", table("ab", row(5, 5), row(0, 0)).envies(0), 0);
    Edge.due(21, "1 more", table("ab", row(5, 6), row(0, 0)).envies(0), 2);
    Edge.due(21, "1 less", table("ab", row(5, 4), row(0, 0)).envies(0), 0);
    Edge.due(21, "two together as much", table("abb", row(5, 2, 3), row(0, 0, 0)).envies(0), 0);
    Edge.due(21, "two together 1 more", table("abb", row(5, 3, 3), row(0, 0, 0)).envies(0), 2);
    Edge.due(21, "by its own lights", table("ab", row(5, 4), row(0, 9)).envies(1), 0);
    Edge.due(21, "all the others", table("abcd", row(-1, 0, 1, 2), row(0, 0, 0, 0), row(0, 0, 0, 0), row(0, 0, 0, 0)).envies(0), 14);
    Edge.due(21, "none of one's own and none of theirs", table("a", row(0), row(0), row(0)).envies(1), 0);
    Edge.due(21, "one below 0 is less than none", table("a", row(-1), row(-1), row(-1)).envies(0), 6);
    Edge.due(21, "and none is more than that", table("a", row(-1), row(-1), row(-1)).envies(1), 0);
    Edge.due(21, "one above 0", table("a", row(1), row(1), row(1)).envies(2), 1);
  }

  private static void portsHeld() {
    Edge.sentence("How many harbours a COURT holds; NONE if there is none such.");
    Edge.beyond(22, "ports", 1, (x, i) -> x.ports(i), NONE);
    StringBuilder text = new StringBuilder(TWO);
    for (int p = 0; p < 7; p++) text.append("place ").append((char) ('p' + p)).append(" of a yield 1 harbour;");
    SpiceSwaps x = Due.told(text.toString());
    for (int n = 0; n <= 7; n++) {
      Edge.due(22, "of a", x.ports(0), 7 - n);
      Edge.due(22, "of b", x.ports(1), n);
      if (n < 7) x.cede(n, 1);
    }
    Edge.due(22, "places without harbours", table("aaa", row(0, 0, 0)).ports(0), 0);
  }

  // ---- rings

  private static void ringNone() {
    Edge.sentence("RING: all GAINS together; GAP if there is none. Which PLACE each COURT gives lies there then (NONE: none; behind GAP: nothing).");
    SpiceSwaps[] none = {new SpiceSwaps(), Due.told("court a gold 0;"), table("a", row(5), row(5)), table("aaaa", row(0, 0, 0, 0), row(9, 9, 9, 9)), table("ab", row(0, 0), row(0, 1))};
    for (SpiceSwaps x : none) {
      x.dear();
      Edge.due(23, "no ring", x.ring(), GAP);
      lies(23, "no ring", x);
    }
    SpiceSwaps two = table("ab", row(0, 0), row(0, 0), row(9, 9), row(9, 9));
    Edge.due(23, "two courts", two.ring(), 0);
    lies(23, "two courts", two, 0, 1, NONE, NONE);
  }

  private static void ringBelowZero() {
    Edge.sentence("so that no GAIN is below 0, and all together are most;");
    int[][] rows = {{0, 0, 1}, {1, 0, 1}, {0, 1, 1}, {-1, 0, 0}, {0, -1, 0}, {-1, 100, 0}, {100, -1, 0}, {100, 100, 1}};
    for (int[] gains : rows) {
      SpiceSwaps x = table("ab", row(0, gains[0]), row(gains[1], 0));
      Edge.due(23, "gains " + gains[0] + " and " + gains[1], x.ring(), gains[2] == 1 ? gains[0] + gains[1] : GAP);
    }
    // A ring of three whose last gain is 0, 1, or below 0.
    for (int last = -1; last <= 1; last++) {
      SpiceSwaps x = table("abc", row(0, -9, 5), row(5, 0, -9), row(-9, last, 0));
      Edge.due(23, "three, the last gain " + last, x.ring(), last < 0 ? GAP : 10 + last);
      if (last >= 0) lies(23, "three", x, 0, 1, 2);
    }
    // A ring of four, likewise, in the order a, b, c, d.
    for (int last = -1; last <= 1; last++) {
      SpiceSwaps x = table("abcd", row(0, -9, -9, 5), row(5, 0, -9, -9), row(-9, 5, 0, -9), row(-9, -9, last, 0));
      Edge.due(23, "four, the last gain " + last, x.ring(), last < 0 ? GAP : 15 + last);
      if (last >= 0) lies(23, "four", x, 0, 1, 2, 3);
    }
  }

  private static void ringOrders() {
    Edge.sentence("two COURTS or more stand in a round, in whichever order, each gives one PLACE to the next one in it");
    // All six rounds of four courts: next[i] gets what i gives.
    int[][] rounds = {{1, 2, 3, 0}, {1, 3, 0, 2}, {2, 3, 1, 0}, {2, 0, 3, 1}, {3, 2, 0, 1}, {3, 0, 1, 2}};
    for (int[] next : rounds) {
      int[][] worths = new int[4][4];
      for (int c = 0; c < 4; c++) for (int p = 0; p < 4; p++) worths[c][p] = p == c ? 0 : next[p] == c ? 10 + c : -1;
      SpiceSwaps x = table("abcd", worths);
      Edge.due(23, "a round of four", x.ring(), 46);
      lies(23, "a round of four", x, 0, 1, 2, 3);
    }
    int[][] threes = {{1, 2, 0}, {2, 0, 1}};
    for (int[] next : threes) {
      int[][] worths = new int[4][3];
      for (int c = 0; c < 3; c++) for (int p = 0; p < 3; p++) worths[c][p] = p == c ? 0 : next[p] == c ? 10 + c : -1;
      SpiceSwaps x = table("abc", worths);
      Edge.due(23, "a round of three", x.ring(), 33);
      lies(23, "a round of three", x, 0, 1, 2, NONE);
    }
    // Not the same place for two: each gives one alone, and gets one alone.
    SpiceSwaps x = table("abb", row(0, 5, 5), row(50, 0, 0));
    Edge.due(23, "one for one", x.ring(), 55);
    lies(23, "one for one", x, 0, 1);
    // Of two rounds of the same gifts the one that gains more counts.
    SpiceSwaps both = table("abc", row(0, 3, 5), row(5, 0, 3), row(3, 5, 0));
    Edge.due(23, "the better round", both.ring(), 15);
    SpiceSwaps other = table("abc", row(0, 6, 5), row(5, 0, 6), row(6, 5, 0));
    Edge.due(23, "the other one is better", other.ring(), 18);
  }

  private static void ringFewest() {
    Edge.sentence("of like ones the fewest COURTS");
    for (int more = 0; more <= 1; more++) {
      // a and b swap for 10 together; the ring of three gains 10, or 11.
      SpiceSwaps x = table("abc", row(0, 5, 5), row(5, 0, -9), row(-9, more, 0));
      Edge.due(23, "more by " + more, x.ring(), 10 + more);
      if (more == 0) lies(23, "two courts", x, 0, 1, NONE);
      else lies(23, "three courts", x, 0, 1, 2);
    }
    for (int more = 0; more <= 1; more++) {
      // b, c, d gain 15 in a ring of three; all four gain 10, or as much, or 1 more.
      SpiceSwaps x = table("abcd", row(0, -9, -9, more), row(0, 0, -9, 5), row(-9, 5, 0, -9), row(-9, -9, 5, 0));
      SpiceSwaps y = table("abcd", row(0, -9, -9, 5 + more), row(0, 0, -9, 5), row(-9, 5, 0, -9), row(-9, -9, 5, 0));
      Edge.due(23, "three are more", x.ring(), 15);
      lies(23, "three are more", x, NONE, 1, 2, 3);
      Edge.due(23, "four more by " + more, y.ring(), 15 + more);
      if (more == 0) lies(23, "three courts", y, NONE, 1, 2, 3);
      else lies(23, "four courts", y, 0, 1, 2, 3);
    }
  }

  private static void ringFewestLater() {
    Edge.sentence("of like ones the fewest COURTS, then the first");
    for (int more = 0; more <= 2; more++) {
      // a gives p in the ring of three, q in the swap with b, which comes later by the places.
      SpiceSwaps x = table("aabc", row(0, 0, 5, -9), row(-9, 4 + more, 0, 5), row(-9, -9, -9, 0));
      SpiceSwaps y = table("aabc", row(0, 0, 5, -9), row(-9, 4 + more, 0, 5), row(0, -9, -9, 0));
      Edge.due(23, "the swap alone", x.ring(), 9 + more);
      lies(23, "the swap alone", x, 1, 2, NONE);
      Edge.due(23, "with a ring of three of 10", y.ring(), Math.max(10, 9 + more));
      if (more == 0) lies(23, "the ring of three", y, 0, 2, 3);
      else lies(23, "the swap", y, 1, 2, NONE);
    }
    // A ring of four with p that gains 9 comes ahead by the places of a swap of q for t that gains 8, 9 or 10.
    for (int more = 0; more <= 2; more++) {
      SpiceSwaps z = table("aabcd", row(0, 0, -9, -9, 3), row(3, -9, 0, -9, -9), row(-9, -9, 3, 0, -9), row(-9, 5 + more, -9, 0, 0));
      Edge.due(23, "four of 9, two of " + (8 + more), z.ring(), Math.max(9, 8 + more));
      if (more == 0) lies(23, "four", z, 0, 2, 3, 4);
      else lies(23, "two", z, 1, NONE, NONE, 4);
    }
  }

  private static void ringFirst() {
    Edge.sentence("then the first (COURT by COURT: which PLACE it gives; none ahead of all).");
    int[] zero = {0, 0, 0, 0, 0, 0, 0};
    SpiceSwaps x = table("abcdabc", zero, zero, zero, zero);
    Edge.due(23, "all alike", x.ring(), 0);
    lies(23, "none ahead of all", x, NONE, NONE, 2, 3);
    SpiceSwaps y = table("dcbadcb", zero, zero, zero, zero);
    y.ring();
    lies(23, "the lowest place of each", y, NONE, NONE, 1, 0);
    SpiceSwaps z = table("aab", zero, zero);
    z.ring();
    lies(23, "the first place of a", z, 0, 2);
    // By the first court first: a's p with b's s comes ahead of a's q with b's r.
    SpiceSwaps like = table("aabb", row(0, 0, -5, 1), row(1, 0, 0, 0));
    Edge.due(23, "p for s", like.ring(), 2);
    lies(23, "p for s", like, 0, 3);
    SpiceSwaps more = table("aabb", row(0, 0, 2, -5), row(-5, 1, 0, 0));
    Edge.due(23, "q for r, if it gains more", more.ring(), 3);
    lies(23, "q for r", more, 1, 2);
    SpiceSwaps ab = table("abc", row(0, 2, 2), row(2, 0, -9), row(2, -9, 0));
    Edge.due(23, "a and b or a and c", ab.ring(), 4);
    lies(23, "a and c: b gives none", ab, 0, NONE, 2);
  }

  // ---- the dearest hands

  private static void dearFirst() {
    Edge.sentence("DEAR: each PLACE to the COURT to which it is WORTH most (of like ones the first).");
    SpiceSwaps x = table("ddddddd", row(0, 0, 0, 0, -1, 5, -100), row(0, 1, 0, 0, -2, 5, -99), row(0, 1, 1, 0, -1, 4, -99), row(0, 0, 1, 1, -3, 5, -100));
    Edge.due(24, "together", x.dear(), 0 + 1 + 1 + 1 - 1 + 5 - 99);
    lies(24, "dear", x, 0, 1, 2, 3, 0, 0, 1);
    Edge.sentence("DEAR: WORTHS together. The COURT for each PLACE lies there then.");
    x.dear();
    lies(24, "again", x, 0, 1, 2, 3, 0, 0, 1);
    x.haggle();
    x.dear();
    lies(24, "behind others", x, 0, 1, 2, 3, 0, 0, 1);
    SpiceSwaps none = Due.told(TWO);
    none.haggle();
    Edge.due(24, "no places", none.dear(), 0);
    lies(24, "no places", none);
    SpiceSwaps most = table("aaaaaaa", row(100, 100, 100, 100, 100, 100, 100));
    Edge.due(24, "all of one", most.dear(), 700);
    lies(24, "all of one", most, 0, 0, 0, 0, 0, 0, 0);
  }

  private static void misheldMore() {
    Edge.sentence("PLACES that are WORTH more to another COURT than to the one that holds them, as bits.");
    SpiceSwaps x = table("abcdabc", row(0, 0, 0, 0, 5, 0, 0), row(0, 0, 0, 0, 4, 0, -1), row(0, 0, 0, 0, 6, 0, -1), row(1, 0, 0, 0, 0, -1, 0));
    // p is worth 1 to d, t 6 to c; v is worth 0 to a and -1 to c, which holds it.
    Edge.due(25, "misheld", x.misheld(), 1 + 16 + 64);
    Edge.due(25, "as much", table("ab", row(0, 0), row(0, 0)).misheld(), 0);
    Edge.due(25, "1 more", table("ab", row(0, 1), row(0, 0)).misheld(), 2);
    Edge.due(25, "1 less", table("ab", row(0, -1), row(0, 0)).misheld(), 0);
    Edge.due(25, "all", table("aaaaaaa", row(0, 0, 0, 0, 0, 0, 0), row(1, 1, 1, 1, 1, 1, 1)).misheld(), 127);
    Edge.due(25, "one court", table("aaa", row(0, 0, 0)).misheld(), 0);
    Edge.due(25, "no places", new SpiceSwaps().misheld(), 0);
  }

  // ---- parts and lots

  private static void divideAsked() {
    Edge.sentence("2: the first one's part, as bits; GAP if both are one, or one can't be.");
    Edge.beyond(26, "divide, the first", 1, (x, i) -> x.divide(i, 0, 1, 0), GAP);
    Edge.beyond(26, "divide, the other", 1, (x, i) -> x.divide(0, i, 1, 0), GAP);
    for (int w = 0; w < 3; w++) {
      int what = w;
      for (int c = 0; c < 4; c++) {
        int court = c;
        for (Edge.Made made : Edge.ALL) Edge.refused(26, "divide(" + c + ", " + c + ")", made, x -> x.divide(court, court, 1, what), GAP);
      }
    }
    Edge.from(3, 26, "divide, what", (x, i) -> x.divide(0, 1, 1, i), GAP);
    for (Edge.Made made : Edge.ALL) {
      int sets = 1 << made.make().about(0);
      for (int set : new int[] {-1, sets, sets + 1, sets | 1, Edge.LOW, Edge.HIGH, Edge.LOW | 1, 1 << 30, 1 << 8}) {
        Edge.refused(26, "divide, set " + set, made, x -> x.divide(0, 1, set, 0), GAP);
      }
    }
  }

  private static void divideSets() {
    Edge.sentence("DIVIDE a set of PLACES between two COURTS: so that the one to which its part is WORTH less has most;");
    SpiceSwaps x = table("aaabbbc", row(1, 2, 4, 8, 16, 32, 64), row(1, 2, 4, 8, 16, 32, 64), row(0, 0, 0, 0, 0, 0, 0));
    for (int w = 0; w < 3; w++) Edge.due(26, "no place", x.divide(0, 1, 0, w), 0);
    int[][] ones = {{1, 0, 1, 0}, {2, 0, 2, 0}, {64, 0, 64, 0}};
    for (int[] one : ones) for (int w = 0; w < 3; w++) Edge.due(26, "one place " + one[0], x.divide(0, 1, one[0], w), one[w + 1]);
    int[] all = {63, 127, 63};
    for (int w = 0; w < 3; w++) Edge.due(26, "all places", x.divide(0, 1, 127, w), all[w]);
    Edge.due(26, "whoever holds them", x.divide(0, 1, 127 - 64, 2), 31);
    int[] third = {0, 127, 127};
    for (int w = 0; w < 3; w++) Edge.due(26, "with one to which they are worth nothing", x.divide(0, 2, 127, w), third[w]);
    int[] turned = {0, 127, 0};
    for (int w = 0; w < 3; w++) Edge.due(26, "the other way", x.divide(2, 0, 127, w), turned[w]);
    // Below 0: the lesser part is that of the farther below.
    SpiceSwaps y = table("aab", row(-5, -7, -9), row(-5, -7, -9));
    int[] low = {-12, -21, 3};
    for (int w = 0; w < 3; w++) Edge.due(26, "below 0", y.divide(0, 1, 7, w), low[w]);
    int[] single = {-5, -5, 0};
    for (int w = 0; w < 3; w++) Edge.due(26, "one below 0", y.divide(0, 1, 1, w), single[w]);
  }

  private static void divideLikeOnes() {
    Edge.sentence("of like ones WORTHS of both parts together most, then the least set for the first one as bits.");
    SpiceSwaps first = table("aa", row(10, 10), row(10, 20));
    Edge.due(26, "p to a: 30 together", first.divide(0, 1, 3, 2), 1);
    Edge.due(26, "30 together", first.divide(0, 1, 3, 1), 30);
    SpiceSwaps second = table("aa", row(10, 10), row(20, 10));
    Edge.due(26, "q to a: 30 together", second.divide(0, 1, 3, 2), 2);
    Edge.due(26, "the lesser part", second.divide(0, 1, 3, 0), 10);
    SpiceSwaps like = table("aa", row(10, 10), row(10, 10));
    Edge.due(26, "the least set", like.divide(0, 1, 3, 2), 1);
    Edge.due(26, "the least set for the first one", like.divide(1, 0, 3, 2), 1);
    SpiceSwaps one = table("aa", row(10, 10), row(10, 11));
    Edge.due(26, "one more together", one.divide(0, 1, 3, 1), 21);
    // The lesser part counts first, however much were together.
    SpiceSwaps lesser = table("aa", row(11, 100), row(10, 11));
    Edge.due(26, "the lesser part first", lesser.divide(0, 1, 3, 0), 11);
    Edge.due(26, "22 rather than 110", lesser.divide(0, 1, 3, 1), 22);
    SpiceSwaps nothing = table("aaaaaaa", row(0, 0, 0, 0, 0, 0, 0), row(0, 0, 0, 0, 0, 0, 0));
    Edge.due(26, "worth nothing: no place for the first one", nothing.divide(0, 1, 127, 2), 0);
  }

  private static void lotsAsked() {
    Edge.sentence("LOTS what 0: how many, 1: WORTH of these to the first one, 2: which, as bits; GAP if no set is enough, both are one, or one can't be.");
    Edge.beyond(27, "lots, the first", 1, (x, i) -> x.lots(i, 0, 0, 0), GAP);
    Edge.beyond(27, "lots, the other", 1, (x, i) -> x.lots(0, i, 0, 0), GAP);
    Edge.from(3, 27, "lots, what", (x, i) -> x.lots(0, 1, 0, i), GAP);
    for (Edge.Made made : Edge.ALL) {
      for (int c = 0; c < 4; c++) {
        int court = c;
        Edge.refused(27, "lots(" + c + ", " + c + ")", made, x -> x.lots(court, court, 0, 0), GAP);
        Edge.refused(27, "so much is never", made, x -> x.lots(court, (court + 1) % 4, Edge.HIGH, 0), GAP);
        Edge.refused(27, "nor so much", made, x -> x.lots(court, (court + 1) % 4, 700000, 2), GAP);
      }
    }
  }

  private static void lotsEnough() {
    Edge.sentence("the fewest to cede to another one, so that what these are WORTH to that one together is so much at least;");
    SpiceSwaps x = table("aaab", row(1, 1, 1, 1), row(5, 3, 2, 50));
    int[][] rows = {{Edge.LOW, 0, 0}, {-1, 0, 0}, {0, 0, 0}, {1, 1, 1}, {3, 1, 1}, {5, 1, 1}, {6, 2, 3}, {7, 2, 3}, {8, 2, 3}, {9, 3, 7}, {10, 3, 7}};
    for (int[] row : rows) {
      Edge.due(27, "so much: " + row[0], x.lots(0, 1, row[0], 0), row[1]);
      Edge.due(27, "which: " + row[0], x.lots(0, 1, row[0], 2), row[2]);
    }
    for (int w = 0; w < 3; w++) Edge.due(27, "11 is not there", x.lots(0, 1, 11, w), GAP);
    Edge.sentence("LOTS: of the PLACES that one COURT holds");
    SpiceSwaps gaps = table("abacaba", row(9, 1, 9, 1, 9, 1, 9), row(2, 50, 2, 50, 2, 50, 2), row(2, 50, 2, 50, 2, 50, 2));
    int[][] held = {{1, 1, 1}, {2, 1, 1}, {3, 2, 5}, {4, 2, 5}, {6, 3, 21}, {8, 4, 85}};
    for (int[] row : held) {
      Edge.due(27, "how many of those it holds: " + row[0], gaps.lots(0, 1, row[0], 0), row[1]);
      Edge.due(27, "which of those it holds: " + row[0], gaps.lots(0, 1, row[0], 2), row[2]);
    }
    Edge.due(27, "more than all it holds", gaps.lots(0, 1, 9, 0), GAP);
    Edge.due(27, "of b", gaps.lots(1, 2, 100, 2), 34);
    Edge.due(27, "of b, too much", gaps.lots(1, 2, 101, 2), GAP);
    Edge.due(27, "of c", gaps.lots(2, 1, 50, 2), 8);
    Edge.due(27, "of c, too much", gaps.lots(2, 1, 51, 2), GAP);
    // One that holds none has but no place to cede.
    SpiceSwaps none = table("a", row(5), row(5));
    Edge.due(27, "none held, none wanted", none.lots(1, 0, 0, 0), 0);
    Edge.due(27, "none held, 1 wanted", none.lots(1, 0, 1, 0), GAP);
    // Below 0 for the other: no place is better than one.
    SpiceSwaps low = table("aa", row(0, 0), row(-3, -4));
    Edge.due(27, "0 by no place", low.lots(0, 1, 0, 2), 0);
    Edge.due(27, "-3 by no place", low.lots(0, 1, -3, 2), 0);
    Edge.due(27, "1 by none at all", low.lots(0, 1, 1, 2), GAP);
    SpiceSwaps all = table("aaaaaaa", row(1, 1, 1, 1, 1, 1, 1), row(100, 100, 100, 100, 100, 100, 100));
    Edge.due(27, "700 by all", all.lots(0, 1, 700, 2), 127);
    Edge.due(27, "how many", all.lots(0, 1, 700, 0), 7);
    Edge.due(27, "701", all.lots(0, 1, 701, 0), GAP);
    Edge.due(27, "601", all.lots(0, 1, 601, 0), 7);
    Edge.due(27, "600", all.lots(0, 1, 600, 0), 6);
  }

  private static void lotsLikeOnes() {
    Edge.sentence("of like ones those of the least WORTH to the first one, then the least set as bits.");
    SpiceSwaps x = table("aaa", row(5, 4, 4), row(9, 9, 9));
    Edge.due(27, "the least worth, then the least set", x.lots(0, 1, 9, 2), 2);
    Edge.due(27, "its worth to the first one", x.lots(0, 1, 9, 1), 4);
    Edge.due(27, "of two", x.lots(0, 1, 18, 2), 6);
    Edge.due(27, "their worth to the first one", x.lots(0, 1, 18, 1), 8);
    // How many counts ahead of what they are worth to the first one.
    SpiceSwaps y = table("aaa", row(90, 1, 1), row(9, 5, 5));
    Edge.due(27, "one dear one rather than two cheap ones", y.lots(0, 1, 9, 2), 1);
    Edge.due(27, "two, and cheap, for one more", y.lots(0, 1, 10, 2), 6);
    SpiceSwaps last = table("aaa", row(1, 1, 90), row(5, 5, 9));
    Edge.due(27, "one dear one, though it is the last", last.lots(0, 1, 9, 2), 4);
    Edge.due(27, "its worth to the first one", last.lots(0, 1, 9, 1), 90);
    Edge.due(27, "how many", last.lots(0, 1, 9, 0), 1);
    // Below 0 to the first one: as few as can be all the same.
    SpiceSwaps z = table("aaa", row(-9, -9, 5), row(9, 9, 9));
    Edge.due(27, "one alone", z.lots(0, 1, 9, 2), 1);
    Edge.due(27, "below 0 to the first one", z.lots(0, 1, 9, 1), -9);
    Edge.due(27, "none wanted: none, though one is a burden", z.lots(0, 1, 0, 0), 0);
  }

  // ---- seeds

  private static void seedsAsked() {
    Edge.sentence("CARRY what 0: the PLACE, 1: how much more; GAP if the COURT does not grow it, there is no PLACE for it, or one can't be.");
    Edge.beyond(28, "seeds, court", 1, (x, i) -> x.seeds(i, 0, 0), GAP);
    Edge.beyond(28, "seeds, crop", 2, (x, i) -> x.seeds(0, i, 0), GAP);
    Edge.from(2, 28, "seeds, what", (x, i) -> x.seeds(1, 0, i), GAP);
    Edge.from(2, 28, "seeds, what", (x, i) -> x.seeds(0, 0, i), GAP);
    Edge.Made made = () -> Due.told("court a gold 0;court b gold 0;crop n price 3;crop m price 3;place p of a yield 4 grows n;place q of a yield 2;place r of b yield 9;place s of b yield 1 grows m;");
    Edge.due(28, "the place", made.make().seeds(0, 0, 0), 1);
    Edge.due(28, "how much more", made.make().seeds(0, 0, 1), 4);
    Edge.refused(28, "a does not grow m", made, x -> x.seeds(0, 1, 0), GAP);
    Edge.refused(28, "b does not grow n", made, x -> x.seeds(1, 0, 1), GAP);
    Edge.Made fullUp = () -> {
      SpiceSwaps x = made.make();
      x.carry(0, 1);
      return x;
    };
    Edge.refused(28, "no place for it", fullUp, x -> x.seeds(0, 0, 0), GAP);
    Edge.refused(28, "no place for it", fullUp, x -> x.seeds(0, 0, 1), GAP);
    SpiceSwaps other = fullUp.make();
    Edge.due(28, "the other has one", other.seeds(1, 1, 0), 2);
    other.cede(0, 1);
    other.cede(1, 1);
    Edge.due(28, "it grows it no more", other.seeds(0, 0, 0), GAP);
    Edge.due(28, "the other does then", other.seeds(1, 0, 0), 2);
  }

  private static void seedsMost() {
    Edge.sentence("at which its EARNINGS of next year would be most more, if it grew there; of like ones the first.");
    SpiceSwaps like = Due.told("court a gold 0;crop n price 2;place p of a yield 5;place q of a yield 5;place r of a yield 1 grows n;place s of a yield 6;");
    Edge.due(28, "6 more is most", like.seeds(0, 0, 0), 3);
    SpiceSwaps first = Due.told("court a gold 0;crop n price 2;place p of a yield 5;place q of a yield 5;place r of a yield 1 grows n;place s of a yield 4;");
    Edge.due(28, "the first of like ones", first.seeds(0, 0, 0), 0);
    // Price 1: nothing more anywhere, the first place all the same.
    SpiceSwaps none = Due.told("court a gold 0;crop n price 1;place p of a yield 1 grows n;place q of a yield 9;place r of a yield 8;");
    Edge.due(28, "0 more", none.seeds(0, 0, 1), 0);
    Edge.due(28, "at the first", none.seeds(0, 0, 0), 1);
    // With others that grow it each place would earn less: the least loss counts.
    SpiceSwaps less = Due.told("court a gold 0;court b gold 0;crop n price 1;place p of a yield 9 grows n;place q of b yield 9 grows n;place r of a yield 9;place s of a yield 2;place t of a yield 1;");
    Edge.due(28, "-1 more", less.seeds(0, 0, 1), -1);
    Edge.due(28, "at the first of these", less.seeds(0, 0, 0), 3);
    // The garrison is paid either way, and counts for neither.
    SpiceSwaps paid = Due.told("court a gold 0;crop n price 3;place p of a yield 1 grows n;place q of a yield 2 garrison 20;place r of a yield 1;");
    Edge.due(28, "where the garrison is", paid.seeds(0, 0, 0), 1);
    Edge.due(28, "4 more", paid.seeds(0, 0, 1), 4);
    // By the yields of now: what it is to grow by counts only later.
    SpiceSwaps now = Due.told("court a gold 0;crop n price 3;place p of a yield 1 grows n;place q of a yield 2;place r of a yield 1 harbour;grow harbour * 9;");
    Edge.due(28, "next year, by the yields of now", now.seeds(0, 0, 0), 1);
  }

  private static void leakAsked() {
    Edge.sentence("LEAK; GAP if the PLACE grows a CROP, or one can't be.");
    Edge.beyond(29, "leak, crop", 2, (x, i) -> x.leak(i, 2), GAP);
    Edge.beyond(29, "leak, place", 0, (x, i) -> x.leak(0, i), GAP);
    for (Edge.Made made : Edge.ALL) {
      SpiceSwaps x = made.make();
      for (int k = 0; k < x.about(2); k++) {
        for (int p = 0; p < x.about(0); p++) {
          int crop = k;
          int place = p;
          if (x.place(p, 2) != NONE) Edge.refused(29, "leak(" + k + ", " + p + ")", made, y -> y.leak(crop, place), GAP);
          else Edge.due(29, "leak(" + k + ", " + p + ") is a number", x.leak(k, p) >= 0, true);
        }
      }
    }
  }

  private static void leakOthers() {
    Edge.sentence("LEAK of a CROP to a PLACE: how much less all other COURTS would EARN next year together, if it grew there.");
    String head = "court a gold 0;court b gold 0;court c gold 0;court d gold 0;crop n price 6;crop m price 6;";
    SpiceSwaps x = Due.told(head + "place p of a yield 10 grows n;place q of b yield 10 grows n;place r of c yield 10 grows n;place s of d yield 10;place t of a yield 5 grows n;place u of b yield 9;");
    // 60 by 3 is 20, by 4 is 15; t: 30 by 3 is 10, by 4 is 7.
    Edge.due(29, "to d, which grows none", x.leak(0, 3), 5 + 5 + 5 + 3);
    Edge.due(29, "to b, which grows it already", x.leak(0, 5), 0);
    Edge.due(29, "of a crop that none grows", x.leak(1, 3), 0);
    SpiceSwaps one = Due.told(head + "place p of a yield 1 grows n;place q of b yield 1;place r of a yield 1;");
    Edge.due(29, "6 by 1, then by 2", one.leak(0, 1), 3);
    Edge.due(29, "to its own only grower", one.leak(0, 2), 0);
  }

  // ---- years to come

  private static void willYears() {
    Edge.sentence("WILL (n 0 .. 60); GAP if one can't be.");
    Edge.beyond(30, "will, court", 1, (x, i) -> x.will(i, 0), GAP);
    Edge.beyond(30, "will, court", 1, (x, i) -> x.will(i, 60), GAP);
    Edge.from(61, 30, "will, years", (x, i) -> x.will(0, i), GAP);
    SpiceSwaps x = Due.told("court a gold 7;place p of a yield 2 garrison 1;");
    for (int n : new int[] {0, 1, 2, 59, 60}) Edge.due(30, "will(0, " + n + ")", x.will(0, n), 7 + n);
    for (Edge.Made made : new Edge.Made[] {Edge::busy, Edge::full}) {
      SpiceSwaps y = made.make();
      SpiceSwaps z = made.make();
      for (int n = 0; n <= 60; n++) {
        for (int c = 0; c < y.about(1); c++) Edge.due(30, "so it came behind " + n, y.will(c, n), z.court(c, 0));
        z.year();
      }
    }
  }

  private static void ruinYears() {
    Edge.sentence("RUIN (0: it is now; 60 at most); NONE if it is not, or there is none such.");
    Edge.beyond(31, "ruin", 1, (x, i) -> x.ruin(i), NONE);
    for (int gold : new int[] {0, 1, 58, 59}) {
      Edge.due(31, "gold " + gold, Due.told("court a gold " + gold + ";place p of a yield 0 garrison 1;").ruin(0), gold + 1);
    }
    for (int gold : new int[] {60, 61, 999}) {
      Edge.due(31, "gold " + gold, Due.told("court a gold " + gold + ";place p of a yield 0 garrison 1;").ruin(0), NONE);
    }
    SpiceSwaps x = Due.told("court a gold 0;court b gold 0;place p of a yield 0 garrison 1;");
    Edge.due(31, "gold of 0 is not below 0", x.ruin(1), NONE);
    x.year();
    Edge.due(31, "it is now", x.ruin(0), 0);
    // Ruined first, rich again later: when it is first counts.
    SpiceSwaps y = Due.told("court a gold 3;place p of a yield 0 garrison 2;grow 9 * (year > 1);");
    Edge.due(31, "first below 0 behind 2", y.ruin(0), 2);
    Edge.due(30, "and rich later", y.will(0, 10) > 0, true);
  }

  private static void grownYears() {
    Edge.sentence("A PLACE's yield behind n YEARS (0 .. 60); NONE if one can't be.");
    Edge.beyond(32, "grown, place", 0, (x, i) -> x.grown(i, 0), NONE);
    Edge.from(61, 32, "grown, years", (x, i) -> x.grown(0, i), NONE);
    SpiceSwaps x = Due.told("court a gold 7;place p of a yield 2;place q of a yield 98;grow 1;");
    for (int n : new int[] {0, 1, 2, 59, 60}) Edge.due(32, "grown(0, " + n + ")", x.grown(0, n), 2 + n);
    for (int n : new int[] {0, 1, 2, 60}) Edge.due(32, "grown(1, " + n + ")", x.grown(1, n), Math.min(99, 98 + n));
  }

  private static void richestYears() {
    Edge.sentence("The COURT of most gold behind n YEARS (0 .. 60); of like ones the first; NONE for another n, or without COURTS.");
    Edge.from(61, 33, "richest", (x, i) -> x.richest(i), NONE);
    for (int n : new int[] {0, 1, 60}) {
      int years = n;
      Edge.refused(33, "richest(" + n + ") without courts", Edge::empty, x -> x.richest(years), NONE);
      Edge.refused(33, "richest(" + n + ") of crops alone", () -> Due.told("crop n price 1;"), x -> x.richest(years), NONE);
      Edge.due(33, "richest(" + n + ") of one", Due.told("court a gold 0;").richest(n), 0);
      Edge.due(33, "richest(" + n + ") of like ones", Due.told("court a gold 1;court b gold 2;court c gold 2;court d gold 2;").richest(n), 1);
      Edge.due(33, "richest(" + n + "), the last", Due.told("court a gold 1;court b gold 2;court c gold 2;court d gold 3;").richest(n), 3);
    }
    SpiceSwaps x = Due.told("court a gold 60;court b gold 0;place p of b yield 1;");
    Edge.due(33, "behind 59", x.richest(59), 0);
    Edge.due(33, "as much behind 60", x.richest(60), 0);
    SpiceSwaps y = Due.told("court a gold 59;court b gold 0;place p of b yield 1;");
    Edge.due(33, "1 more behind 60", y.richest(60), 1);
    Edge.due(33, "as much behind 59", y.richest(59), 0);
    SpiceSwaps low = Due.told("court a gold 0;court b gold 0;place p of a yield 0 garrison 2;place q of b yield 0 garrison 1;");
    Edge.due(33, "all below 0", low.richest(60), 1);
  }

  private static void oddsAsked() {
    Edge.sentence("ODDS (n 0 .. 3) the upper part (0), the lower part (1), in lowest terms (0 of 1); NONE without PLACES, or if one can't be.");
    Edge.from(4, 34, "odds, years", (x, i) -> x.odds(i, 0), NONE);
    Edge.from(2, 34, "odds, part", (x, i) -> x.odds(1, i), NONE);
    Edge.from(2, 34, "odds, part of 0 years", (x, i) -> x.odds(0, i), NONE);
    for (int n = 0; n <= 3; n++) {
      for (int p = 0; p < 2; p++) {
        int years = n;
        int part = p;
        Edge.refused(34, "odds without places", Edge::empty, x -> x.odds(years, part), NONE);
        Edge.refused(34, "odds without places", () -> Due.told("court a gold 0;storm 50 of 1;"), x -> x.odds(years, part), NONE);
        Edge.due(34, "odds of 0 years, or without a storm", Due.told("court a gold 0;place p of a yield 1;").odds(n, p), 1);
      }
    }
  }

  private static void oddsLowest() {
    Edge.sentence("ODDS of n: that a PLACE is not hit by a storm in the next n YEARS (each YEAR by itself, each PLACE alike), whatever the SEED is.");
    for (int places = 1; places <= 7; places++) {
      StringBuilder text = new StringBuilder("court a gold 0;draw 5;");
      for (int p = 0; p < places; p++) text.append("place ").append((char) ('p' + p)).append(" of a yield 1;");
      for (int storm : new int[] {0, 1, 2, 50, 99, 100}) {
        SpiceSwaps x = Due.told(text + "storm " + storm + " of 1;");
        for (int n = 0; n <= 3; n++) {
          java.math.BigInteger lower = java.math.BigInteger.valueOf(100L * places).pow(n);
          java.math.BigInteger upper = java.math.BigInteger.valueOf(100L * places - storm).pow(n);
          java.math.BigInteger common = upper.gcd(lower);
          Edge.due(34, "odds(" + n + ", 0) of " + places + ", storm " + storm, x.odds(n, 0), upper.divide(common).longValueExact());
          Edge.due(34, "odds(" + n + ", 1) of " + places + ", storm " + storm, x.odds(n, 1), lower.divide(common).longValueExact());
        }
        x.year();
        Edge.due(34, "whatever the seed is", x.odds(1, 0), (100 * places - storm) / java.math.BigInteger.valueOf(100L * places - storm).gcd(java.math.BigInteger.valueOf(100L * places)).intValue());
      }
    }
  }
}
