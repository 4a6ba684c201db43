/** ==== 1.: every sentence on the tape, the world's text and its faults that names a boundary case (promises 1 to 5). */
public final class EdgeTextTest {
  private static final int NONE = Edge.NONE;
  private static final String C = "court c gold 1;";
  private static final String P = C + "place p of c yield 1;";

  public static void main(String[] args) {
    atMost1600Bytes();
    emptyAtFirst();
    feeds();
    ends();
    worldsTaken();
    worldsTakenAgain();
    worldsRefused();
    faultsAsked();
    lineForms();
    optionalParts();
    words();
    numbers();
    signs();
    signsBetween();
    blanks();
    asLongAsCanBe();
    noLetterBehind();
    wordsAreNoNames();
    courts();
    crops();
    places();
    yieldsAndGarrisons();
    toldAhead();
    numberedAsTold();
    beliefs();
    onceEach();
    stormsAndDraws();
    units();
    whatIsAUnit();
    nested();
    relationsOnce();
    firstByPlace();
    leastAtOnePlace();
    sorts();
    theEnd();
    Edge.end("EdgeTextTest", 1, 5);
  }

  private static void fault(String text, int code, int place) {
    SpiceSwaps x = new SpiceSwaps();
    Due.tape(x, text);
    int places = x.world();
    Edge.due(4, "\"" + text + "\" is refused", places == NONE, code != 0);
    Edge.due(5, "fault(0) of \"" + text + "\"", x.fault(0), code);
    Edge.due(5, "fault(1) of \"" + text + "\"", x.fault(1), place);
  }

  private static void fine(String text) {
    fault(text, 0, NONE);
  }

  private static SpiceSwaps padded(int length, String last) {
    return onTape(" ".repeat(length - last.length()) + last);
  }

  private static SpiceSwaps onTape(String text) {
    SpiceSwaps x = new SpiceSwaps();
    Due.tape(x, text);
    return x;
  }

  // ---- the tape

  private static void atMost1600Bytes() {
    Edge.sentence("A WORLD is a text of at most 1,600 bytes");
    SpiceSwaps x = padded(1600, "draw 7;");
    Edge.due(46, "bytes", x.about(10), 1600);
    Edge.due(4, "1,600 bytes are a world", x.world(), 0);
    Edge.due(4, "its last line counts", x.about(4), 7);
    SpiceSwaps y = padded(1600, "draw 7;#");
    Edge.due(4, "the last byte counts", y.world(), NONE);
    Edge.due(5, "it is no token", y.fault(0), 1);
    Edge.due(5, "at the last byte", y.fault(1), 1599);
    SpiceSwaps z = padded(1600, "draw 7");
    Edge.due(4, "1,600 bytes and no end", z.world(), NONE);
    Edge.due(5, "the end can't stand there", z.fault(0), 2);
    Edge.due(5, "at the text's length", z.fault(1), 1600);
    SpiceSwaps word = padded(1600, "court abcdefgh");
    Edge.due(4, "a word up to the last byte", word.world(), NONE);
    Edge.due(5, "what is behind it", word.fault(1), 1600);
    SpiceSwaps digits = padded(1600, "draw 9999");
    Edge.due(4, "a number up to the last byte", digits.world(), NONE);
    Edge.due(5, "it can't be", digits.fault(0), 4);
    Edge.due(5, "where it begins", digits.fault(1), 1596);
    SpiceSwaps blanks = onTape(" \n".repeat(800));
    Edge.due(4, "1,600 blanks", blanks.world(), 0);
  }

  private static void emptyAtFirst() {
    Edge.sentence("(empty at first): world = {line}.");
    SpiceSwaps x = new SpiceSwaps();
    Edge.due(1, "bytes at first", x.about(10), 0);
    Edge.due(1, "places at first", x.about(0), 0);
    Edge.due(4, "no line is a world", x.world(), 0);
    Edge.due(5, "without a fault", x.fault(0), 0);
    Edge.due(5, "at no place", x.fault(1), NONE);
    fine("");
    fine(C);
    fine(C + "draw 1;");
  }

  private static void feeds() {
    Edge.sentence("how many there are; NONE, and nothing comes, if there would be more than 1,600.");
    SpiceSwaps x = new SpiceSwaps();
    for (int i = 1; i <= 80; i++) Edge.due(2, "feed " + i, x.feed(0x20202020, 0x20202020, 0x20202020, 0x20202020, 0x20202020), 20 * i);
    for (int length : new int[] {1600, 1599, 1590, 1581}) {
      Edge.refused(2, "feed behind " + length, () -> padded(length, "draw 5;"), y -> y.feed(1, 2, 3, 4, 5), NONE);
    }
    for (int length : new int[] {1580, 1579, 20, 0}) {
      SpiceSwaps y = padded(length, "");
      Edge.due(2, "feed behind " + length, y.feed(0x20202020, 0x64726177, 0x20202020, 0x39393920, 0x2020203b), length + 20);
      Edge.due(2, "bytes then", y.about(10), length + 20);
      Edge.due(4, "they are a world", y.world(), 0);
      Edge.due(4, "as fed", y.about(4), 999);
    }
    Edge.sentence("Twenty bytes come behind those on the TAPE, of each number the highest first");
    SpiceSwaps y = new SpiceSwaps();
    y.feed(0x64726177, 0x20203120, 0x3b0a0a20, 0x20202020, 0x2020ff20);
    Edge.due(4, "a byte above 127", y.world(), NONE);
    Edge.due(5, "is no token", y.fault(0), 1);
    Edge.due(5, "where it stands", y.fault(1), 18);
    SpiceSwaps z = new SpiceSwaps();
    z.feed(0x80000000, 0, 0, 0, 0);
    z.world();
    Edge.due(5, "the highest byte is the first", z.fault(1), 0);
    SpiceSwaps last = new SpiceSwaps();
    last.feed(0x20202020, 0x20202020, 0x20202020, 0x20202020, 0x20202001);
    last.world();
    Edge.due(5, "the lowest byte is the last", last.fault(1), 19);
  }

  private static void ends() {
    Edge.sentence("The TAPE has its first n bytes: n; NONE, doing nothing, if it has not so many, or n is below 0.");
    for (int length : new int[] {0, 1, 43, 1600}) {
      for (int n : new int[] {length + 1, length + 20, -1, Edge.LOW, Edge.HIGH}) {
        Edge.refused(3, "end(" + n + ") of " + length, () -> onTape(" ".repeat(length)), x -> x.end(n), NONE);
      }
      SpiceSwaps x = onTape(" ".repeat(length));
      Edge.due(3, "end of all", x.end(length), length);
      Edge.due(3, "all stay", x.about(10), length);
      Edge.due(3, "end(0)", x.end(0), 0);
      Edge.due(3, "none stays", x.about(10), 0);
      Edge.due(3, "none to come back", x.end(1), NONE);
    }
    SpiceSwaps x = onTape("draw 5;draw 6;");
    Edge.due(3, "end(7)", x.end(7), 7);
    Edge.due(4, "the first ones stay", x.world(), 0);
    Edge.due(4, "as they were", x.about(4), 5);
    SpiceSwaps y = onTape("draw 5;draw 6;");
    Edge.due(3, "end(8) of 14", y.end(8), 8);
    y.world();
    Edge.due(5, "one byte more", y.fault(1), 7);
    SpiceSwaps z = onTape("draw 5");
    z.feed(0x3b202020, 0x20202020, 0x20202020, 0x20202020, 0x20202020);
    Edge.due(2, "what is fed comes behind what stayed", z.about(10), 26);
    Edge.due(4, "and is one text with it", z.world(), 0);
  }

  // ---- world and fault

  private static void worldsTaken() {
    Edge.sentence("The TAPE (empty then) is the WORLD (all as told, year 0, no ACTS are kept, nothing is SAID, nothing lies there,"
        + " BOXES are empty then; the TIME stays): how many PLACES");
    SpiceSwaps x = Edge.full();
    Edge.due(4, "world()", x.world(), 1);
    int[] about = {1, 1, 0, 0, 3, 5, 0, 0, 0, 7, 0, 0, 0};
    for (int w = 0; w < about.length; w++) Edge.due(4, "about(" + w + ") then", x.about(w), about[w]);
    for (int box = 0; box < 3; box++) Edge.due(4, "back(" + box + ") then", x.back(box), NONE);
    Edge.due(4, "undo() then", x.undo(), false);
    Edge.due(4, "redo() then", x.redo(), false);
    Edge.due(4, "lies(0) then", x.lies(0), -2);
    Edge.due(4, "untell(0) then", x.untell(0), false);
    Edge.due(4, "fits(7) then", x.fits(7), 1);
    Edge.due(4, "the first said then", x.harbours(true), 0);
    Edge.due(4, "gold then", x.court(0, 0), 77);
    Edge.due(4, "a second court then", x.court(1, 0), Edge.GAP);
    Edge.due(4, "a crop then", x.crop(0, 0), NONE);
    Edge.due(4, "a second place then", x.place(1, 0), Edge.GAP);
    Edge.due(4, "garrison then", x.place(0, 4), 0);
    Edge.due(4, "worth then", x.worth(0, 0), 5);
    Edge.due(4, "grown then", x.grown(0, 60), 5);
    Edge.due(4, "odds then", x.odds(1, 1), 1);
    Edge.due(4, "the tape is empty: an empty world", x.world(), 0);
    Edge.due(4, "no courts then", x.about(1), 0);
    SpiceSwaps seven = Due.told(Edge.FULL);
    Edge.due(4, "seven places", seven.about(0), 7);
  }

  /** One object is told worlds in turn: nothing of one that went, taken or refused, is found in a later one. */
  private static void worldsTakenAgain() {
    String rich = "court a gold 9;court b gold 8;crop n price 7;place p of a yield 50 harbour grows n garrison 5;place q of b yield 40;believes a p 7;worth 3;grow 5;storm 100 of 9;draw 8;";
    String plain = "court a gold 1;place p of a yield 50;";
    String[] refused = {rich + "#", "worth 4;grow 5;storm 100 of 3;draw 7;draw 7;", "court a gold 1;place p of a yield 1 harbour garrison 3;believes a p 9;believes a p"};
    SpiceSwaps x = new SpiceSwaps();
    for (int round = 0; round < 6; round++) {
      Due.tape(x, round % 2 == 0 ? rich : refused[round / 2]);
      Edge.due(4, "world " + round, x.world(), round % 2 == 0 ? 2 : NONE);
      Due.tape(x, plain);
      Edge.due(4, "a plain one", x.world(), 1);
      int[] about = {1, 1, 0, 0, 0, 50, 0, 0, 0, 0, 0, 0, 0};
      for (int w = 0; w < about.length; w++) Edge.due(4, "about(" + w + ") of it", x.about(w), about[w]);
      int[] place = {0, 50, NONE, 0, 0, 50};
      for (int w = 0; w < place.length; w++) Edge.due(4, "place(0, " + w + ") of it", x.place(0, w), place[w]);
      Edge.due(4, "belief of it", x.belief(0, 0), 100);
      Edge.due(4, "worth of it", x.worth(0, 0), 50);
      Edge.due(4, "grown in it", x.grown(0, 60), 50);
      Edge.due(4, "odds in it", x.odds(1, 1), 1);
      Edge.due(4, "gold of it", x.court(0, 0), 1);
      Edge.due(4, "no court more", x.court(1, 0), Edge.GAP);
      Edge.due(4, "no crop", x.crop(0, 0), NONE);
      // What went may be told again, once each.
      Due.tape(x, plain + "worth yield+1;grow 2;storm 100 of 1;draw 1;");
      Edge.due(4, "told again", x.world(), 1);
      Edge.due(46, "its units", x.about(11), 3);
      Edge.due(4, "its worth", x.worth(0, 0), 51);
      Edge.due(4, "what it grows by, less the storm", x.grown(0, 1), 51);
      Edge.due(4, "its odds", x.odds(1, 0), 0);
    }
  }

  private static void worldsRefused() {
    Edge.sentence("NONE: a FAULT (all stays).");
    String[] texts = {"draw 1;draw 2;", "court a gold 1;place p of a yield 7 harbour;worth 9;grow 9;storm 100 of 9;draw 9;#", "worth yield + 1;grow 5", "court"};
    int[][] faults = {{2, 7}, {1, 81}, {2, 22}, {2, 5}};
    for (int i = 0; i < texts.length; i++) {
      String text = texts[i];
      for (Edge.Made made : new Edge.Made[] {Edge::busy, Edge::full, Edge::empty}) {
        Edge.Made taped = () -> {
          SpiceSwaps x = made.make();
          Due.tape(x, text);
          return x;
        };
        Edge.due(4, "world() of \"" + text + "\"", taped.make().world(), NONE);
        Edge.changesOnly(4, "world() of \"" + text + "\"", taped, x -> x.world(), "fault(");
        SpiceSwaps x = taped.make();
        x.world();
        Edge.due(5, "fault(0) of it", x.fault(0), faults[i][0]);
        Edge.due(5, "fault(1) of it", x.fault(1), faults[i][1]);
        Edge.due(4, "the tape stays", x.about(10), text.length());
      }
    }
    // The tape stays, so that it can be mended: cut to its first line it is a world.
    SpiceSwaps x = onTape("draw 1;draw 2;");
    x.world();
    x.end(7);
    Edge.due(4, "mended", x.world(), 0);
    Edge.due(4, "as told", x.about(4), 1);
  }

  private static void faultsAsked() {
    Edge.sentence("Of the latest world() what 0: its FAULT (0), 1: its place (NONE). NONE for another what.");
    for (Edge.Made made : Edge.ALL) {
      for (int what : Edge.outside(2)) Edge.refused(5, "fault(" + what + ")", made, x -> x.fault(what), NONE);
    }
    SpiceSwaps x = new SpiceSwaps();
    Edge.due(5, "fault(0) ahead of any world()", x.fault(0), 0);
    Edge.due(5, "fault(1) ahead of any world()", x.fault(1), NONE);
    Due.tape(x, "#");
    x.world();
    Edge.due(5, "a fault at place 0", x.fault(1), 0);
    Edge.due(5, "which", x.fault(0), 1);
    x.end(0);
    Edge.due(5, "not of the tape, but of the latest world()", x.fault(0), 1);
    x.world();
    Edge.due(5, "fault(0) behind one that is taken", x.fault(0), 0);
    Edge.due(5, "fault(1) behind one that is taken", x.fault(1), NONE);
  }

  // ---- lines

  private static final String[] LINES = {"court d gold 1 ;", "crop n price 1 ;", "place q of c yield 1 harbour grows m garrison 1 ;",
    "believes c p 1 ;", "worth 1 ;", "grow 1 ;", "storm 1 of 1 ;", "draw 1 ;"};
  private static final String KNOWN = "court c gold 1;crop m price 1;place p of c yield 1;";

  private static void lineForms() {
    Edge.sentence("line = court NAME gold N ; | crop NAME price N ; | place NAME of NAME yield N [harbour] [grows NAME] [garrison N] ;"
        + " | believes NAME NAME N ; | worth e ; | grow e ; | storm N of N ; | draw N ;.");
    for (String line : LINES) {
      fine(KNOWN + line);
      String[] tokens = line.split(" ");
      StringBuilder ahead = new StringBuilder(KNOWN);
      for (int i = 0; i < tokens.length; i++) {
        // Cut ahead of a token the text ends too early; < in its stead can't stand there, but behind a sum.
        if (i > 0) fault(ahead.toString(), 2, ahead.length());
        boolean isBehindSum = i == 2 && tokens[0].matches("worth|grow");
        fault(ahead + "< " + tokens[i], 2, ahead.length() + (isBehindSum ? 2 : 0));
        ahead.append(tokens[i]).append(' ');
      }
      fault(KNOWN + line + ";", 2, KNOWN.length() + line.length());
    }
    // A number where a name is to be, though a name stands right ahead of it, and a name where a number is to be.
    String same = "court c gold 1;crop c price 1;place c of c yield 1;";
    fault(same + "believes c 1 1;", 2, same.length() + 11);
    fault(same + "believes 1 c 1;", 2, same.length() + 9);
    fault(same + "believes c c c;", 2, same.length() + 13);
    fault(same + "place d of 1 yield 1;", 2, same.length() + 11);
    fault(same + "place 1 of c yield 1;", 2, same.length() + 6);
    fault(same + "place d of c yield c;", 2, same.length() + 19);
    fault(same + "place d of c yield 1 grows 1;", 2, same.length() + 27);
    fault(same + "place d of c yield 1 garrison c;", 2, same.length() + 30);
    fault(same + "court 1 gold 1;", 2, same.length() + 6);
    fault(same + "court d gold c;", 2, same.length() + 13);
    fault(same + "crop 1 price 1;", 2, same.length() + 5);
    fault(same + "crop d price c;", 2, same.length() + 13);
    fault(same + "storm c of 1;", 2, same.length() + 6);
    fault(same + "storm 1 of c;", 2, same.length() + 11);
    fault(same + "draw c;", 2, same.length() + 5);
    for (String word : "gold price of yield harbour grows garrison or and not belief held year name".split(" ")) {
      fault(word + " c gold 1;", 2, 0);
      fault(C + word, 2, 15);
    }
  }

  private static void optionalParts() {
    Edge.sentence("place NAME of NAME yield N [harbour] [grows NAME] [garrison N] ;");
    String head = "court c gold 1;crop m price 1;place q of c yield 1";
    String[] parts = {" harbour", " grows m", " garrison 1"};
    for (int set = 0; set < 8; set++) {
      StringBuilder text = new StringBuilder(head);
      for (int i = 0; i < 3; i++) if ((set >> i & 1) != 0) text.append(parts[i]);
      fine(text + ";");
      SpiceSwaps x = Due.told(text + ";");
      Edge.due(6, "harbour of part " + set, x.place(0, 3), set & 1);
      Edge.due(6, "crop of part " + set, x.place(0, 2), (set & 2) != 0 ? 0 : NONE);
      Edge.due(6, "garrison of part " + set, x.place(0, 4), set >> 2);
    }
    for (int i = 0; i < 3; i++) {
      for (int k = 0; k <= i; k++) fault(head + parts[i] + parts[k] + ";", 2, head.length() + parts[i].length() + 1);
    }
  }

  // ---- tokens

  private static void words() {
    Edge.sentence("TOKENS: words (a .. z, 8 at most)");
    for (String word : new String[] {"a", "z", "az", "zzzzzzzz", "aaaaaaaa", "abcdefgh"}) fine("court " + word + " gold 1;");
    for (String word : new String[] {"aaaaaaaaa", "zzzzzzzzz", "abcdefghi", "a".repeat(16), "a".repeat(64), "a".repeat(65)}) {
      fault("court " + word + " gold 1;", 1, 6);
      fault(word, 1, 0);
    }
    fault("believesx", 1, 0);
    fault("court c gold" + "d".repeat(5), 1, 8);
    // Bytes next to a and z.
    fault("court a` gold 1;", 1, 7);
    fault("court z{ gold 1;", 1, 7);
    fault("court A gold 1;", 1, 6);
    // Names of eight letters are told apart by each of them, and by how many there are.
    for (int i = 0; i < 8; i++) {
      String other = "a".repeat(i) + "b" + "a".repeat(7 - i);
      fine("court aaaaaaaa gold 1;court " + other + " gold 1;");
      fault("court aaaaaaaa gold 1;place p of " + other + " yield 1;", 5, 33);
    }
    for (int i = 1; i < 8; i++) {
      for (String letter : "a b c m y z".split(" ")) fine("court " + letter.repeat(i) + " gold 1;court " + letter.repeat(i + 1) + " gold 1;");
    }
    for (String pair : "b ab az ba by ca zz aza y xy".split(" ")) fault("court a gold 1;place p of " + pair + " yield 1;", 5, 26);
    fault("court zzzzzzzz gold 1;court zzzzzzzz gold 1;", 3, 28);
  }

  private static void numbers() {
    Edge.sentence("N (1 to 4 digits)");
    for (String n : new String[] {"0", "9", "00", "0000", "0009", "9999"}) fine("worth " + n + ";");
    for (String n : new String[] {"00000", "00001", "10000", "99999", "0".repeat(20), "4294967297", "9".repeat(40)}) {
      fault("worth " + n + ";", 1, 6);
      fault("court c gold " + n + ";", 1, 13);
    }
    SpiceSwaps x = Due.told(P + "worth 9999;");
    Edge.due(10, "four digits", x.worth(0, 0), 9999);
    SpiceSwaps y = Due.told(P + "worth 0012;");
    Edge.due(10, "zeros ahead", y.worth(0, 0), 12);
    // Bytes next to 0 and 9: / is a sign, : is none.
    fine("worth 1/1;");
    fault("worth 1:1;", 1, 7);
  }

  private static void signs() {
    Edge.sentence("signs ; ( ) < > = + - * / %; blanks (32, 10) part them or not");
    for (int c = 0; c < 256; c++) {
      String text = "" + (char) c;
      if (c == 32 || c == 10) fine(text);
      else if (c >= 'a' && c <= 'z' || c >= '0' && c <= '9' || ";()<>=+-*/%".indexOf(c) >= 0) fault(text, 2, 0);
      else fault(text, 1, 0);
    }
  }

  private static void signsBetween() {
    for (int c = 0; c < 256; c++) {
      String text = "worth 1" + (char) c + "1;";
      if (c >= '0' && c <= '9' || "<>=+-*/%".indexOf(c) >= 0) fine(text);
      else if (c >= 'a' && c <= 'z') fault(text, 1, 6);
      else if (c == 32 || c == 10 || c == ';') fault(text, 2, 8);
      else if (c == '(' || c == ')') fault(text, 2, 7);
      else fault(text, 1, 7);
    }
    // A sign of two bytes is two signs.
    fault("worth 1 <= 2;", 2, 9);
    fault("worth 1 == 2;", 2, 9);
    fault("worth 1 <> 2;", 2, 9);
    fault("worth - 1;", 2, 6);
  }

  private static void blanks() {
    Edge.sentence("blanks (32, 10) part them or not");
    fine("court c gold1;crop n price1;place p of c yield1 harbour grows n garrison1;believes c p1;worth(1)or(not(1))and(yield)+2*3;storm1 of1;draw1;");
    fine("\n court \n\n c \n gold \n 1 \n ; \n ");
    fine("court\nc\ngold\n1\n;");
    fine("  court   c   gold   1   ;  ");
    // A blank within a word or a number parts it in two.
    fault("cou rt c gold 1;", 2, 0);
    fault("court c gold 1 2;", 2, 15);
    fault("court c go ld 1;", 2, 8);
    for (int c : new int[] {0, 8, 9, 11, 12, 13, 31, 33, 127, 128, 160, 255}) fault("draw" + (char) c + "1;", 1, 4);
  }

  private static void asLongAsCanBe() {
    Edge.sentence("each is as long as can be");
    fault("courtc gold 1;", 2, 0);
    fault("drawn 1;", 2, 0);
    fault("grows 1;", 2, 0);
    fault("court c golds 1;", 2, 8);
    fault(C + "place p of c yields 1;", 2, 28);
    fault(C + "place p of c yield 1 harbours;", 2, 36);
    fault(P + "worth notyield;", 2, 42);
    fault(P + "worth 1 orb;", 2, 44);
    fine("court courts gold 1;");
    fine("court yields gold 1;");
    fine("court growsa gold 1;");
    fine("worth 12;");
    Edge.due(10, "12 is one number", Due.told(P + "worth 12;").worth(0, 0), 12);
  }

  private static void noLetterBehind() {
    Edge.sentence("no letter directly behind an N.");
    for (String n : new String[] {"1", "12", "999", "0999"}) {
      fault("draw " + n + "a;", 1, 5);
      fault("draw " + n + "z;", 1, 5);
      fine("draw " + n + ";");
    }
    fault("storm 1of 1;", 1, 6);
    fine("storm 1 of 1;");
    fine("storm 1\nof1;");
    fault(C + "place p of c yield 3harbour;", 1, 34);
    fault("draw 9999a;", 1, 5);
    // A letter ahead of a number is fine: a word ends where a digit stands.
    fine("draw1;");
    fault("court a1 gold 1;", 2, 7);
    // No letters: bytes next to a and z, and capital ones.
    fault("draw 1`;", 1, 6);
    fault("draw 1{;", 1, 6);
    fault("draw 1A;", 1, 6);
  }

  private static void wordsAreNoNames() {
    Edge.sentence("Words that stand for themselves here are no NAMES.");
    String words = "court gold crop price place of yield harbour grows garrison believes worth grow storm draw or and not belief held year";
    for (String word : words.split(" ")) {
      fault("court " + word + " gold 1;", 2, 6);
      fault("crop " + word + " price 1;", 2, 5);
      fault(C + "place " + word + " of c yield 1;", 2, 21);
      fault(C + "place p of " + word + " yield 1;", 2, 26);
      fault(P + "believes " + word + " p 1;", 2, 45);
      fault(P + "believes c " + word + " 1;", 2, 47);
      if (word.length() < 8) fine("court " + word + "x gold 1;");
      fine("court x" + word.substring(1) + " gold 1;");
    }
    for (String word : "line e both one sum term unit world name n x".split(" ")) {
      fine("court " + word + " gold 1;crop " + word + " price 1;place " + word + " of " + word + " yield 1 grows " + word + ";believes " + word + " " + word + " 1;");
    }
  }

  // ---- how many of each sort

  private static String some(String line, int count) {
    StringBuilder text = new StringBuilder();
    for (int i = 0; i < count; i++) text.append(line.replace('?', (char) ('a' + i)));
    return text.toString();
  }

  private static void courts() {
    Edge.sentence("At most 4 COURTS (gold 0 .. 999)");
    String line = "court ? gold 1;";
    for (int n = 0; n <= 4; n++) {
      fine(some(line, n));
      Edge.due(46, "courts", Due.told(some(line, n)).about(1), n);
    }
    fault(some(line, 5), 2, 60);
    fault(some(line, 4) + "court", 2, 60);
    fault(some(line, 4) + "court a gold 1;", 2, 60);
    fault(some(line, 4) + "court e gold 1000;", 2, 60);
    for (int gold : new int[] {0, 1, 998, 999}) Edge.due(7, "gold", Due.told("court c gold " + gold + ";").court(0, 0), gold);
    fault("court c gold 1000;", 4, 13);
    fault("court c gold 9999;", 4, 13);
  }

  private static void crops() {
    Edge.sentence("3 CROPS (price 1 .. 9)");
    String line = "crop ? price 1;";
    for (int n = 0; n <= 3; n++) {
      fine(some(line, n));
      Edge.due(46, "crops", Due.told(some(line, n)).about(2), n);
    }
    fault(some(line, 4), 2, 45);
    fault(some(line, 3) + "crop a price 0;", 2, 45);
    for (int price : new int[] {1, 2, 8, 9}) Edge.due(8, "price", Due.told("crop n price " + price + ";").crop(0, 0), price);
    fault("crop n price 0;", 4, 13);
    fault("crop n price 10;", 4, 13);
  }

  private static void places() {
    Edge.sentence("7 PLACES (of a COURT, growing a CROP or none, both told ahead;");
    String line = "place ? of c yield 1;";
    for (int n = 0; n <= 7; n++) {
      fine(C + some(line, n));
      Edge.due(4, "places", Due.told(C + some(line, n)).about(0), n);
    }
    fault(C + some(line, 8), 2, 15 + 7 * 21);
    fault(C + some(line, 7) + "place a of x yield 100;", 2, 15 + 7 * 21);
    fault(C + some(line, 7) + "place", 2, 15 + 7 * 21);
  }

  private static void yieldsAndGarrisons() {
    Edge.sentence("yield 0 .. 99, garrison 0 .. 20, 0 if not told)");
    for (int yield : new int[] {0, 1, 98, 99}) Edge.due(6, "yield", Due.told(C + "place p of c yield " + yield + ";").place(0, 1), yield);
    fault(C + "place p of c yield 100;", 4, 34);
    fault(C + "place p of c yield 999;", 4, 34);
    for (int garrison : new int[] {0, 1, 19, 20}) {
      Edge.due(6, "garrison", Due.told(C + "place p of c yield 1 garrison " + garrison + ";").place(0, 4), garrison);
    }
    fault(C + "place p of c yield 1 garrison 21;", 4, 45);
    Edge.due(6, "garrison not told", Due.told(P).place(0, 4), 0);
  }

  private static void toldAhead() {
    Edge.sentence("(of a COURT, growing a CROP or none, both told ahead;");
    fine("court a gold 1;place p of a yield 1;");
    fault("place p of a yield 1;court a gold 1;", 5, 11);
    fault("court a gold 1;place p of b yield 1;court b gold 1;", 5, 26);
    fine("court a gold 1;crop n price 1;place p of a yield 1 grows n;");
    fault("court a gold 1;place p of a yield 1 grows n;crop n price 1;", 5, 42);
    fault("crop a price 1;place p of a yield 1;", 5, 26);
    fault("court a gold 1;place p of a yield 1 grows a;", 5, 42);
    Edge.due(6, "growing none", Due.told(P).place(0, 2), NONE);
  }

  private static void numberedAsTold() {
    Edge.sentence("numbered as told, each sort by itself;");
    SpiceSwaps x = Due.told("court z gold 10;crop z price 2;place z of z yield 20;court y gold 11;crop y price 3;place y of y yield 21 grows z;"
        + "court x gold 12;crop x price 4;place x of x yield 22 grows x;court w gold 13;place w of z yield 23 grows y;");
    int[] holders = {0, 1, 2, 0};
    int[] crops = {NONE, 0, 2, 1};
    for (int i = 0; i < 4; i++) {
      Edge.due(7, "court " + i, x.court(i, 0), 10 + i);
      Edge.due(6, "place " + i, x.place(i, 1), 20 + i);
      Edge.due(6, "of court " + i, x.place(i, 0), holders[i]);
      Edge.due(6, "growing " + i, x.place(i, 2), crops[i]);
    }
    for (int i = 0; i < 3; i++) Edge.due(8, "crop " + i, x.crop(i, 0), 2 + i);
  }

  private static void beliefs() {
    Edge.sentence("believes (a COURT, a PLACE, both told ahead, each with each once; 0 .. 200 of 100; 100 if not told)");
    for (int belief : new int[] {0, 1, 99, 100, 101, 199, 200}) Edge.due(9, "belief", Due.told(P + "believes c p " + belief + ";").belief(0, 0), belief);
    fault(P + "believes c p 201;", 4, 49);
    fault(P + "believes c p 9999;", 4, 49);
    Edge.due(9, "belief not told", Due.told(P).belief(0, 0), 100);
    fault(C + "believes c p 1;place p of c yield 1;", 5, 26);
    fault(P + "believes d p 1;court d gold 1;", 5, 45);
    fault(P + "believes p p 1;", 5, 45);
    fault(P + "believes c c 1;", 5, 47);
    fault(P + "believes c p 1;believes c p 1;", 3, 62);
    fault(P + "believes c p 0;believes c p 0;", 3, 62);
    fault(P + "believes c p 100;believes c p 100;", 3, 64);
    String two = P + "court d gold 1;place q of c yield 1;";
    SpiceSwaps x = Due.told(two + "believes c p 1;believes d q 2;believes c q 3;believes d p 4;");
    Edge.due(9, "c of p", x.belief(0, 0), 1);
    Edge.due(9, "d of q", x.belief(1, 1), 2);
    Edge.due(9, "c of q", x.belief(0, 1), 3);
    Edge.due(9, "d of p", x.belief(1, 0), 4);
    fault(two + "believes c p 1;believes d q 2;believes c q 3;believes d p 4;believes d q 2;", 3, two.length() + 71);
    // All four with all seven.
    StringBuilder all = new StringBuilder(some("court ? gold 1;", 4) + some("place ? of a yield 1;", 7));
    for (int c = 0; c < 4; c++) for (int p = 0; p < 7; p++) all.append("believes ").append((char) ('a' + c)).append(' ').append((char) ('a' + p)).append(' ').append(c * 7 + p).append(';');
    SpiceSwaps y = Due.told(all.toString());
    for (int c = 0; c < 4; c++) for (int p = 0; p < 7; p++) Edge.due(9, "belief(" + c + ", " + p + ")", y.belief(c, p), c * 7 + p);
    fault(all + "believes d g 1;", 3, all.length() + 11);
    fault(all + "believes a a 1;", 3, all.length() + 11);
  }

  private static void onceEach() {
    Edge.sentence("worth, grow, storm (0 .. 100 by 100, of 1 .. 99; 0 of 1), draw (0 .. 999; 0) once each");
    String[] lines = {"worth 1;", "grow 1;", "storm 1 of 1;", "draw 1;"};
    fine(String.join("", lines));
    fine(lines[3] + lines[2] + lines[1] + lines[0]);
    String all = String.join("", lines);
    for (String line : lines) {
      fault(line + line, 2, line.length());
      fault(all + line, 2, all.length());
      fault(all + line.split(" ")[0], 2, all.length());
    }
    // One that tells what holds anyway is told all the same.
    fault("storm 0 of 1;storm 1 of 1;", 2, 13);
    fault("draw 0;draw 0;", 2, 7);
    fault("worth 0;worth 0;", 2, 8);
    fault("grow 0;grow 0;", 2, 7);
  }

  private static void stormsAndDraws() {
    Edge.sentence("storm (0 .. 100 by 100, of 1 .. 99; 0 of 1), draw (0 .. 999; 0)");
    for (int storm : new int[] {0, 1, 99, 100}) fine("storm " + storm + " of 1;");
    for (int loss : new int[] {1, 2, 98, 99}) fine("storm 1 of " + loss + ";");
    fault("storm 101 of 1;", 4, 6);
    fault("storm 1 of 0;", 4, 11);
    fault("storm 1 of 100;", 4, 11);
    fault("storm 101 of 100;", 4, 6);
    for (int draw : new int[] {0, 1, 998, 999}) Edge.due(46, "the seed", Due.told("draw " + draw + ";").about(4), draw);
    fault("draw 1000;", 4, 5);
    SpiceSwaps x = Due.told(P);
    Edge.due(46, "draw not told", x.about(4), 0);
    Edge.due(34, "storm not told: the upper part", x.odds(1, 0), 1);
    Edge.due(34, "storm not told: the lower part", x.odds(1, 1), 1);
    x.year();
    Edge.due(14, "storm not told: no storm", x.place(0, 1), 1);
    SpiceSwaps y = Due.told(C + "place p of c yield 99;storm 100 of 99;");
    y.year();
    Edge.due(14, "the highest storm of the most", y.place(0, 1), 0);
    SpiceSwaps z = Due.told(C + "place p of c yield 99;storm 0 of 99;");
    for (int i = 0; i < 60; i++) z.year();
    Edge.due(14, "storm 0: never", z.place(0, 1), 99);
  }

  private static void units() {
    Edge.sentence("60 units in all, 30 in one e");
    String thirty = "1" + "+1".repeat(29);
    String many = "1" + "+1".repeat(28);
    Edge.due(46, "29 units", Due.told("worth " + many + ";").about(11), 29);
    Edge.due(46, "30 units", Due.told("worth " + thirty + ";").about(11), 30);
    Edge.due(46, "60 units", Due.told("worth " + thirty + ";grow " + thirty + ";").about(11), 60);
    Edge.due(46, "60 units the other way", Due.told("grow " + thirty + ";worth " + thirty + ";").about(11), 60);
    for (String unit : "1 yield belief harbour garrison price held year (1)".split(" ")) {
      fault("worth " + thirty + "+" + unit + ";", 2, 66);
      fault("grow " + thirty + "+" + unit + ";", 2, 65);
      fault("worth " + thirty + " or not " + unit + ";", 2, 73);
      fault("worth " + thirty + ";grow " + thirty + "-" + unit + ";", 2, 131);
      fine("worth " + many + (unit.equals("(1)") ? ";" : "+" + unit + ";"));
    }
    Edge.sentence("a unit too many, what is within 7 others: at its first TOKEN, or the not)");
    // The unit ( e ) is one, too, beside those in it.
    Edge.due(46, "(1) is two units", Due.told("worth (1);").about(11), 2);
    Edge.due(46, "30 with ( e )", Due.told("worth (" + many + ");").about(11), 30);
    fault("worth (" + thirty + ");", 2, 65);
    fault("worth " + many + "+(1);", 2, 65);
    Edge.due(10, "30 units are all reckoned", Due.told(P + "worth " + thirty + ";").worth(0, 0), 30);
    String nots = "not not not not not not not ";
    Edge.due(10, "30 units behind seven nots each: none is so", Due.told(P + "worth " + (nots + "1 or ").repeat(29) + nots + "1;").worth(0, 0), 0);
    Edge.due(10, "30 units behind seven nots each: the last is so", Due.told(P + "worth " + (nots + "1 or ").repeat(29) + nots + "0;").worth(0, 0), 1);
    Edge.due(10, "30 units within one another", Due.told(P + "worth 1-(2-(3-(4-(5-(6-(7-(8-9-1-1-1-1-1-1-1-1-1-1-1-1-1-1)))))));").worth(0, 0), 1 - (2 - (3 - (4 - (5 - (6 - (7 - (8 - 9 - 14))))))));
  }

  private static void whatIsAUnit() {
    Edge.sentence("unit = N | yield | belief | harbour | garrison | price | held | year | ( e ).");
    for (String word : "yield belief harbour garrison price held year".split(" ")) {
      fine("worth " + word + ";");
      fine("grow (" + word + ")*" + word + ";");
    }
    for (String word : "court gold crop place of grows believes worth grow storm draw or and c ; ) < > = + - * / %".split(" ")) {
      fault("worth " + word + ";", 2, 6);
      fault("worth (" + word + ");", 2, 7);
      fault("worth 1+" + word + ";", 2, 8);
      fault(C + "grow not " + word + ";", 2, 24);
    }
  }

  private static void nested() {
    Edge.sentence("(a unit ( e ), or a one behind not, within 6 others at most)");
    for (int n = 1; n <= 9; n++) {
      String parens = "worth " + "(".repeat(n) + "1" + ")".repeat(n) + ";";
      String nots = "worth " + "not ".repeat(n) + "1;";
      if (n <= 7) {
        fine(parens);
        fine(nots);
        Edge.due(10, n + " nots", Due.told(P + nots).worth(0, 0), n % 2 == 0 ? 1 : 0);
        Edge.due(10, n + " within one another", Due.told(P + parens).worth(0, 0), 1);
      } else {
        fault(parens, 2, 6 + 7);
        fault(nots, 2, 6 + 28);
      }
    }
    for (int nots = 0; nots <= 8; nots++) {
      int parens = 8 - nots;
      String text = "worth " + "not ".repeat(nots) + "(".repeat(parens) + "1" + ")".repeat(parens) + ";";
      fault(text, 2, nots < 8 ? 6 + 4 * nots + 7 - nots : 6 + 28);
      String within = "worth " + "(".repeat(parens) + "not ".repeat(nots) + "1" + ")".repeat(parens) + ";";
      fault(within, 2, parens < 8 ? 6 + parens + 4 * (7 - parens) : 6 + 7);
      if (nots > 0) fine("worth " + "not ".repeat(nots - 1) + "(".repeat(parens) + "1" + ")".repeat(parens) + ";");
      if (nots > 0) fine("worth " + "(".repeat(parens) + "not ".repeat(nots - 1) + "1" + ")".repeat(parens) + ";");
    }
    // A unit that is no ( e ) within seven others is fine, and what is beside one another is not within.
    fine("worth " + "(".repeat(7) + "1+2*yield" + ")".repeat(7) + ";");
    fine("worth " + "(".repeat(7) + "1" + ")".repeat(7) + "+" + "(".repeat(7) + "1" + ")".repeat(7) + ";");
    fault("worth " + "(".repeat(7) + "1" + ")".repeat(7) + "+" + "(".repeat(8) + "1" + ")".repeat(8) + ";", 2, 6 + 15 + 1 + 7);
    fine("worth " + "not ".repeat(7) + "1 and " + "not ".repeat(7) + "1;");
    fault("worth " + "not ".repeat(7) + "1 and " + "not ".repeat(8) + "1;", 2, 6 + 28 + 6 + 28);
    fault("worth " + "(".repeat(7) + "1 or not 1" + ")".repeat(7) + ";", 2, 6 + 7 + 5);
    fault("grow " + "(".repeat(7) + "1 and (1)" + ")".repeat(7) + ";", 2, 5 + 7 + 6);
  }

  private static void relationsOnce() {
    Edge.sentence("one = not one | sum [(< | > | =) sum].");
    for (String a : "< > =".split(" ")) {
      fine("worth 1 " + a + " 2;");
      for (String b : "< > =".split(" ")) {
        fault("worth 1 " + a + " 2 " + b + " 3;", 2, 12);
        fine("worth (1 " + a + " 2) " + b + " 3;");
        fine("worth 1 " + a + " 2 and 2 " + b + " 3;");
      }
      fault("worth 1 " + a + " not 2;", 2, 10);
      fault("worth 1 " + a + ";", 2, 9);
    }
    for (String a : "+ - * / %".split(" ")) {
      fault("worth 1 " + a + " not 2;", 2, 10);
      fault("worth 1 " + a + ";", 2, 9);
      fault("worth " + a + " 1;", 2, 6);
    }
    fault("worth ();", 2, 7);
    fault("worth (1;", 2, 8);
    fault("worth 1);", 2, 7);
    fault("worth ;", 2, 6);
    fault("worth (1)(2);", 2, 9);
  }

  // ---- faults

  private static void firstByPlace() {
    Edge.sentence("FAULTS, the first by its place (bytes from 0; the end: the text's length)");
    fault("court c gold 1000 #", 4, 13);
    fault("place p of c yield 100 #", 5, 11);
    fault("draw 1 # 1000;", 1, 7);
    fault("draw of #", 2, 5);
    fault("court c gold 1;court c gold 1000;", 3, 21);
    fault("court c gold 1000;court c gold 1;", 4, 13);
    fault(P + "believes c q 201;", 5, 47);
    fault(P + "believes d q 201;", 5, 45);
    fault(P + "believes c p 1;believes c p 201;", 3, 62);
    fault("storm 101 of 0;", 4, 6);
    fault("draw 1;draw 1000;", 2, 7);
    fault("worth 1;worth #;", 2, 8);
    fault("draw 1; draw", 2, 8);
    fault("\n\ndraw 1000;", 4, 7);
  }

  private static void leastAtOnePlace() {
    Edge.sentence("at one place the least: 1 no TOKEN; 2 one that can't stand there");
    // No token, where a name, a number, a word or a unit too many is looked for.
    fault("abcdefghi c gold 1;", 1, 0);
    fault("court c goldgoldg 1;", 1, 8);
    fault("court c gold 10000;", 1, 13);
    fault("court c gold 1a;", 1, 13);
    fault("place p of abcdefghi yield 1;", 1, 11);
    fault(P + "believes c ppppppppp 1;", 1, 47);
    fault("worth 1" + "+1".repeat(29) + "+#;", 1, 66);
    fault("worth 1" + "+1".repeat(29) + "+12345;", 1, 66);
    fault("worth 1" + "+1".repeat(29) + "+1x;", 1, 66);
    fault("worth " + "(".repeat(7) + "#", 1, 13);
    // What can't stand there, though it would be a number or a name that can't be, too.
    fault("draw 1 1000;", 2, 7);
    fault("1000", 2, 0);
    fault("court 1000 gold 1;", 2, 6);
    fault("court c gold d;", 2, 13);
    fault("worth c;", 2, 6);
    fault(some("court ? gold 1;", 4) + "court a gold 1;", 2, 60);
    fault("court c gold 1;court gold gold 1;", 2, 21);
  }

  private static void sorts() {
    Edge.sentence("3 a NAME told already (of its sort), a COURT with a PLACE told already (at the second NAME); 4 a number that can't be;"
        + " 5 a NAME that nothing of the sort has.");
    fault(some("court ? gold 1;", 3) + "court c gold 1;", 3, 51);
    fault(some("court ? gold 1;", 3) + "court a gold 1;", 3, 51);
    fault(some("crop ? price 1;", 2) + "crop b price 1;", 3, 35);
    fault(C + some("place ? of c yield 1;", 6) + "place f of c yield 1;", 3, 15 + 126 + 6);
    fault(C + some("place ? of c yield 1;", 6) + "place a of x yield 1;", 3, 15 + 126 + 6);
    fine("court a gold 1;crop a price 1;place a of a yield 1 grows a;");
    fault("court a gold 1;crop b price 1;place p of b yield 1;", 5, 41);
    fault("court a gold 1;crop b price 1;place p of a yield 1 grows p;", 5, 57);
    fault("court a gold 1;place p of a yield 1;place q of p yield 1;", 5, 47);
  }

  private static void theEnd() {
    Edge.sentence("(bytes from 0; the end: the text's length)");
    fault("court", 2, 5);
    fault("court ", 2, 6);
    fault("court\n\n\n", 2, 8);
    fault("court c gold 1", 2, 14);
    fault("worth (1", 2, 8);
    fault("worth 1 +", 2, 9);
    fault("worth not", 2, 9);
    // What stood on the tape behind the end is not read.
    SpiceSwaps x = onTape("draw 123;");
    x.end(7);
    Edge.due(4, "cut within a number", x.world(), NONE);
    Edge.due(5, "the number is fine, the end is not", x.fault(0), 2);
    Edge.due(5, "at the length", x.fault(1), 7);
    SpiceSwaps y = onTape("draw 1a;");
    y.end(6);
    y.world();
    Edge.due(5, "a letter behind the end is none", y.fault(0), 2);
  }
}
