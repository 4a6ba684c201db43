/** What the project's tests share: making an object with a world, and counting answers that are not due. */
final class Due {
  private static int wrong = 0;
  private static int asked = 0;
  private static final int[] ASKED_OF = new int[47];

  private Due() { }

  static void due(int promise, String what, long got, long want) {
    asked++;
    ASKED_OF[promise]++;
    if (got != want) {
      wrong++;
      System.out.println("promise " + promise + ": " + what + " answered " + got + ", due is " + want);
    }
  }

  static void due(int promise, String what, boolean got, boolean want) {
    due(promise, what, got ? 1L : 0L, want ? 1L : 0L);
  }

  static int looked(int promise) {
    return ASKED_OF[promise];
  }

  /** Puts a text on the tape, in place of what stood there. */
  static void tape(SpiceSwaps x, String text) {
    x.end(0);
    for (int i = 0; i < text.length(); i += 20) {
      int[] n = new int[5];
      for (int k = 0; k < 20; k++) {
        int c = i + k < text.length() ? text.charAt(i + k) : ' ';
        n[k / 4] = n[k / 4] << 8 | c & 255;
      }
      x.feed(n[0], n[1], n[2], n[3], n[4]);
    }
    if (x.end(text.length()) != text.length()) throw new IllegalStateException("the text is too long: " + text.length());
  }

  /** A new object with this world. */
  static SpiceSwaps told(String text) {
    SpiceSwaps x = new SpiceSwaps();
    tape(x, text);
    if (x.world() < 0) throw new IllegalStateException("fault " + x.fault(0) + " at " + x.fault(1) + " of " + text);
    return x;
  }

  static void end(String name) {
    System.out.println(name + ": " + asked + " answers looked at, " + wrong + " not as due");
    if (wrong != 0) System.exit(1);
  }
}
