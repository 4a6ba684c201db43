import java.lang.management.ManagementFactory;

/** That calls make no objects: what all calls of a run make must fit into one room. */
public final class RoomTest {
  private static final String[] MAKES = {"court a gold 5;court b gold 0;court c gold 9;court d gold 9;crop mace price 4;crop clove price 3;",
    "place p of a yield 10 harbour grows mace garrison 3;place q of b yield 7 grows mace;place r of b yield 6 harbour;",
    "place s of c yield 9 grows clove garrison 20;place t of a yield 0;place u of d yield 4;place v of d yield 5;",
    "believes a q 150;believes b p 50;believes c r 200;worth yield * belief / 100 + harbour * held;grow 1 - year % 3;storm 50 of 3;draw 7;"};

  private static void all(SpiceSwaps x, int i) {
    x.place(i % 7, 5);
    x.court(i % 4, 3);
    x.crop(i % 3, 1);
    x.swap(i % 7, i / 7 % 7);
    x.cede(i % 7, i % 4);
    x.carry(i % 2, i % 7);
    x.year();
    x.undo();
    x.redo();
    x.gain(i % 7, i / 7 % 7);
    x.best(0);
    x.swaps();
    x.haggle();
    x.envies(i % 4);
    x.ring();
    x.dear();
    x.misheld();
    x.divide(0, 1, 127, 0);
    x.lots(0, 1, i, 0);
    x.seeds(i % 4, i % 2, 1);
    x.leak(i % 2, i % 7);
    x.will(i % 4, 60);
    x.ruin(i % 4);
    x.grown(i % 7, 60);
    x.richest(60);
    x.odds(3, 1);
    x.harbours(true);
    x.fits(i);
    x.ask(0, i);
    x.image(i % 3);
    x.back(i % 3);
  }

  public static void main(String[] args) {
    com.sun.management.ThreadMXBean bean = (com.sun.management.ThreadMXBean) ManagementFactory.getThreadMXBean();
    String text = String.join("", MAKES);
    SpiceSwaps x = Due.told(text);
    for (int i = 0; i < 20; i++) all(x, i);
    long before = bean.getCurrentThreadAllocatedBytes();
    for (int i = 0; i < 1000; i++) all(x, i);
    long calls = bean.getCurrentThreadAllocatedBytes() - before;
    Due.tape(x, text);
    before = bean.getCurrentThreadAllocatedBytes();
    x.world();
    long world = bean.getCurrentThreadAllocatedBytes() - before;
    before = bean.getCurrentThreadAllocatedBytes();
    new SpiceSwaps().about(0);
    long object = bean.getCurrentThreadAllocatedBytes() - before;
    System.out.println("RoomTest: 31,000 calls made " + calls + " bytes, a world " + world + ", an object " + object);
    // A little may come from the machine itself, never so much as one object a call.
    if (calls > 4000 || world > 1000 || object > 40000) System.exit(1);
  }
}
