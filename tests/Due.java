/** Compares answers with those that are due, and ends the run if one was wrong. */
final class Due {
  static final int BEYOND = -1000001;
  static final int FULL = -1000002;
  static final int KIND = -1000003;
  static final int NONE = -1000004;
  static final int STATE = -1000005;
  static final int MISSING = -1000006;
  static final int SIZE = -1000007;

  private int asked = 0;
  private int wrong = 0;

  void is(String call, long got, long want) {
    asked++;
    if (got != want) {
      wrong++;
      System.out.println(call + " answered " + got + ", due is " + want);
    }
  }

  void end() {
    System.out.println(asked + " answers, " + wrong + " not as due");
    if (wrong != 0 || asked == 0) {
      System.exit(1);
    }
  }

  /** Feeds a text byte by byte, so that feed's own packing is not in the way. */
  static void feed(TollSills x, String text) {
    for (int i = 0; i < text.length(); i++) {
      x.feed(text.charAt(i), 1);
    }
  }

  /** Feeds a text in few calls. */
  static void feedByFours(TollSills x, String text) {
    for (int i = 0; i < text.length(); i += 4) {
      int n = Math.min(4, text.length() - i);
      int bytes = 0;
      for (int k = 0; k < n; k++) {
        bytes = bytes << 8 | text.charAt(i + k);
      }
      x.feed(bytes, n);
    }
  }

  static int read(TollSills x, String text) {
    feed(x, text);
    return x.text();
  }

  /** A quarter by a text that must be right. */
  static TollSills quarter(String... texts) {
    TollSills x = new TollSills();
    for (String text : texts) {
      if (read(x, text) < 1) {
        throw new IllegalArgumentException(text);
      }
    }
    return x;
  }

  /** Lays out sheet s with numbers. */
  static void sheet(TollSills x, int s, int bits, int... numbers) {
    x.sheet(s, bits, numbers.length);
    for (int i = 0; i < numbers.length; i++) {
      x.write(s, i, numbers[i]);
    }
  }
}
