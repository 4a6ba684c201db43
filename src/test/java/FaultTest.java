/** Promises 4 and 5, and the grammar under Terms: texts with their fault and its place. */
public final class FaultTest {
  private static final String C = "court c gold 1;";
  private static final String P = C + "place p of c yield 1;";

  private static void fault(String text, int code, int place) {
    SpiceSwaps x = new SpiceSwaps();
    Due.tape(x, text);
    int places = x.world();
    Due.due(4, "world of \"" + text + "\" refused", places == SpiceSwaps.NONE, code != 0);
    Due.due(5, "fault(0) of \"" + text + "\"", x.fault(0), code);
    Due.due(5, "fault(1) of \"" + text + "\"", x.fault(1), place);
    int[] oracle = Oracle.faultOf(text);
    Due.due(5, "the oracle's fault of \"" + text + "\"", oracle[0], code);
    Due.due(5, "the oracle's place of \"" + text + "\"", oracle[1], place);
  }

  private static void fine(String text) {
    fault(text, 0, -1);
  }

  public static void main(String[] args) {
    tokens();
    lines();
    numbers();
    names();
    limits();
    formulas();
    nesting();
    cutShort();
    Due.end("FaultTest");
  }

  private static void tokens() {
    fine("");
    fine(" \n ");
    fine(C);
    fine("court\nc\n gold 1 ;\n");
    fine("court c gold1;");
    fault(C + "place p of c yield 3harbour;", 1, 34);
    fault("#", 1, 0);
    fault("\t" + C, 1, 0);
    fault(C + "\r", 1, 15);
    fault("Court c gold 1;", 1, 0);
    fault("court c gold 1,", 1, 14);
    fault("court c gold -1;", 2, 13);
    fault("court " + (char) 233 + " gold 1;", 1, 6);
    fault("court " + (char) 0 + " gold 1;", 1, 6);
    fault("court " + (char) 187 + " gold 1;", 1, 6);
    fine("court abcdefgh gold 1;");
    fault("court abcdefghi gold 1;", 1, 6);
    fault("abcdefghi", 1, 0);
    fine("court c gold 0001;");
    fault("court c gold 00001;", 1, 13);
    fault("court c gold 1a;", 1, 13);
    fault("court c gold 1gold;", 1, 13);
    fault("court c gold 1z;", 1, 13);
    fault(P + "worth 3or 4;", 1, 42);
    fine(P + "worth 3 or 4;");
    fine(P + "worth yield*2+belief/3%4-(held);");
    fine(P + "worth not(1)and(2);");
    // What is no token counts as that, even where another token could not stand.
    fault("12345", 1, 0);
    fault("gold #", 2, 0);
  }

  private static void lines() {
    fault(";", 2, 0);
    fault("1", 2, 0);
    fault("c", 2, 0);
    fault("courtc gold 1;", 2, 0);
    fault("court", 2, 5);
    fault("court  ", 2, 7);
    fault("court c", 2, 7);
    fault("court c gold", 2, 12);
    fault("court c gold 1", 2, 14);
    fault("court c gold 1 \n ", 2, 17);
    fault("court c price 1;", 2, 8);
    fault("court c 1;", 2, 8);
    fault("court c gold x;", 2, 13);
    fault("court c gold 1 1;", 2, 15);
    fault("court c gold 1;;", 2, 15);
    fault("court 1 gold 1;", 2, 6);
    fault("crop n gold 1;", 2, 7);
    fine("crop n price 9;");
    fine(C + "crop n price 1;place p of c yield 99 harbour grows n garrison 20;");
    fine(C + "crop n price 1;place p of c yield 0 grows n;");
    fine(C + "place p of c yield 0 garrison 0;");
    fault(C + "crop n price 1;place p of c yield 0 grows n harbour;", 2, 59);
    fault(C + "place p of c yield 0 garrison 1 harbour;", 2, 47);
    fault(C + "place p of c yield 0 harbour harbour;", 2, 44);
    fault(C + "place p c yield 1;", 2, 23);
    fault(C + "place p of c harbour;", 2, 28);
    fault(P + "believes c p;", 2, 48);
    fault(P + "believes c 1 p;", 2, 47);
    fine(P + "believes c p 0;");
    fine("storm 0 of 1;");
    fault("storm 1;", 2, 7);
    fault("storm 1 of;", 2, 10);
    fine("draw 999;");
    fault("draw;", 2, 4);
  }

  private static void numbers() {
    fault("court c gold 1000;", 4, 13);
    fine("court c gold 999;");
    fault("crop n price 0;", 4, 13);
    fault("crop n price 10;", 4, 13);
    fault(C + "place p of c yield 100;", 4, 34);
    fault(C + "place p of c yield 1 garrison 21;", 4, 45);
    fault(P + "believes c p 201;", 4, 49);
    fine(P + "believes c p 200;");
    fault("storm 101 of 1;", 4, 6);
    fine("storm 100 of 99;");
    fault("storm 1 of 0;", 4, 11);
    fault("storm 1 of 100;", 4, 11);
    fault("draw 1000;", 4, 5);
    fine("worth 9999;");
    fault("worth 10000;", 1, 6);
  }

  private static void names() {
    fault("court c gold 1;court c", 3, 21);
    fault("crop n price 1;crop n price 2;", 3, 20);
    fault(P + "place p of c yield 1;", 3, 42);
    fine("court c gold 1;crop c price 1;place c of c yield 1 grows c;");
    fault("place p of c yield 1;", 5, 11);
    fault(C + "place p of d yield 1;", 5, 26);
    fault(C + "place p of c yield 1 grows n;", 5, 42);
    fault(P + "believes d p 1;", 5, 45);
    fault(P + "believes c q 1;", 5, 47);
    fault(P + "believes c p 1;believes c p 2;", 3, 62);
    fine(P + "court d gold 1;believes c p 1;believes d p 2;");
    // A court that is told only later is not known yet.
    fault("place p of c yield 1;" + C, 5, 11);
    String[] words = ("court gold crop price place of yield harbour grows garrison believes worth grow storm draw or and not"
        + " belief held year").split(" ");
    for (String word : words) fault("court " + word + " gold 1;", 2, 6);
    for (String word : "line e both one sum term unit world name n".split(" ")) fine("court " + word + " gold 1;");
  }

  private static void limits() {
    String courts = "court a gold 1;court b gold 1;court c gold 1;court d gold 1;";
    fine(courts);
    fault(courts + "court e gold 1;", 2, 60);
    fault(courts + "court", 2, 60);
    String crops = "crop a price 1;crop b price 1;crop c price 1;";
    fine(crops);
    fault(crops + "crop d price 1;", 2, 45);
    StringBuilder places = new StringBuilder(C);
    for (int i = 0; i < 7; i++) places.append("place ").append((char) ('a' + i)).append(" of c yield 1;");
    fine(places.toString());
    fault(places + "place h of c yield 1;", 2, places.length());
    fault("worth 1;worth 1;", 2, 8);
    fault("grow 1;grow 1;", 2, 7);
    fine("worth 1;grow 1;");
    fault("storm 0 of 1;storm 0 of 1;", 2, 13);
    fault("draw 0;draw 0;", 2, 7);
    String thirty = "1" + "+1".repeat(29);
    fine("worth " + thirty + ";");
    fine("worth " + thirty + ";grow " + thirty + ";");
    fault("worth " + thirty + "+1;", 2, 66);
    fault("worth " + thirty + "+", 2, 66);
    fault("worth " + thirty + ";grow " + thirty + "-held;", 2, 131);
    // A nested formula is a unit, as are those in it.
    fine("worth (" + "1" + "+1".repeat(28) + ");");
    fault("worth (" + thirty + ");", 2, 65);
    fault("worth " + "1" + "+1".repeat(29) + "+(1);", 2, 66);
    fine("worth " + "not not not not not not not 1 and ".repeat(28) + "2;");
  }

  private static void formulas() {
    fault("worth;", 2, 5);
    fault("worth gold;", 2, 6);
    fault("worth c;", 2, 6);
    fault("worth 1+;", 2, 8);
    fault("worth +1;", 2, 6);
    fault("worth 1 2;", 2, 8);
    fault("worth 1 < 2 < 3;", 2, 12);
    fine("worth (1 < 2) < 3;");
    fault("worth 1 = 2 = 3;", 2, 12);
    fault("worth 1 + not 2;", 2, 10);
    fine("worth 1 + (not 2);");
    fine("worth 1 and not 2 or not 3 < 4;");
    fault("worth 1 or or 2;", 2, 11);
    fault("worth (1;", 2, 8);
    fault("worth 1);", 2, 7);
    fault("worth ();", 2, 7);
    fault("worth (1 < 2 < 3);", 2, 13);
    fault("worth not;", 2, 9);
    fine("grow yield+belief+harbour+garrison+price+held+year;");
    fault("grow", 2, 4);
  }

  private static void nesting() {
    fine("worth " + "(".repeat(7) + "1" + ")".repeat(7) + ";");
    fault("worth " + "(".repeat(8) + "1" + ")".repeat(8) + ";", 2, 13);
    fine("worth " + "not ".repeat(7) + "1;");
    fault("worth " + "not ".repeat(8) + "1;", 2, 6 + 28);
    fine("worth " + "not (".repeat(3) + "not 1" + ")".repeat(3) + ";");
    fault("worth " + "not (".repeat(4) + "1" + ")".repeat(4) + ";", 2, 6 + 19);
    fault("worth " + "(not ".repeat(4) + "1" + ")".repeat(4) + ";", 2, 6 + 16);
    // Beside one another they are not within one another.
    fine("worth " + "((((((1)))))) + ".repeat(3) + "((((((1))))));");
  }

  /** What stood on the tape behind the text's end is not read. */
  private static void cutShort() {
    cut("court c gold 1;court cd gold 2;", 22, 3, 21);
    cut("court c gold 12345;", 15, 2, 15);
    cut("court c gold 1999;", 15, 2, 15);
    cut("worth 1or 2;", 7, 2, 7);
    cut("court c gold 1;", 14, 2, 14);
    cut("court c gold 1;#", 15, 0, -1);
  }

  private static void cut(String text, int length, int code, int place) {
    SpiceSwaps x = new SpiceSwaps();
    Due.tape(x, text);
    x.end(length);
    x.world();
    Due.due(5, "fault(0) of \"" + text + "\" cut to " + length, x.fault(0), code);
    Due.due(5, "fault(1) of \"" + text + "\" cut to " + length, x.fault(1), place);
  }
}
