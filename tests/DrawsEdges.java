/** Boundary cases of promises 28 to 33. */
final class DrawsEdges {
  private final Edges t;

  private DrawsEdges(Edges t) {
    this.t = t;
  }

  static void run(Edges t) {
    DrawsEdges edges = new DrawsEdges(t);
    edges.stroll();
    edges.odds();
    edges.seed();
    edges.feed();
    edges.wipe();
    edges.text();
  }

  private static int next(int z) {
    return z * 1103515245 + 12345;
  }

  private void stroll() {
    t.section("Promise 28");
    t.says("n times (1 to 20) two draws: THE LIST tells for this DAY a CROSSING of the one of the first one's rest by 6"
        + " over the SILL of the second one's rest by 8; then a DAY: LOST then.");
    for (int n : new int[] {1, 20}) {
      TollSills x = new TollSills();
      int[] list = new int[6];
      int z = 1;
      for (int day = 0; day < n; day++) {
        int first = next(z);
        z = next(first);
        list[day % 6] = 10 * ((first >>> 8) % 6) + (z >>> 8) % 8;
      }
      t.is("of an empty quarter none is lost", x.stroll(n), 0);
      t.is("z behind " + n, x.count(6), z);
      t.is("day behind " + n, x.now(0), n);
      for (int i = 0; i < 6; i++) {
        t.is("listed " + i + " behind " + n, x.listed(i), list[i]);
      }
    }
    boolean[] seen = new boolean[60];
    TollSills x = new TollSills();
    for (int i = 0; i < 400; i++) {
      x.stroll(1);
      seen[x.listed(i % 6)] = true;
    }
    for (int crossing = 0; crossing < 60; crossing++) {
      t.is("one 0 to 5, sill 0 to 7: " + crossing, seen[crossing] ? 1 : 0, crossing % 10 < 8 ? 1 : 0);
    }
    t.is("lost then", losing().stroll(20) > 0 ? 1 : 0, 1);
    t.says("BEYOND.");
    t.range("n", Towns::rich, 1, 20, (y, v) -> y.stroll(v));
    t.says("STATE: DAY would be above 99999.");
    // Farther than 512 calls come.
    t.refused("20 days behind 99980", DrawsEdges::later, Due.STATE, y -> y.stroll(20));
    TollSills late = later();
    t.is("19 days behind 99980", late.stroll(19), late.now(1));
    t.is("the last day", late.now(0), 99999);
    t.is("one more", late.stroll(1), Due.STATE);
  }

  private static TollSills losing() {
    TollSills x = new TollSills();
    for (int i = 0; i < 8; i++) {
      x.sill(6);
    }
    for (int i = 0; i < 6; i++) {
      x.person(4095);
    }
    return x;
  }

  private static TollSills later() {
    TollSills x = Towns.late();
    x.go(20);
    return x;
  }

  private void odds() {
    t.section("Promise 29");
    t.says("The odds that n (0 to 17) WORDS, each the rest by 12 of a draw, are all such as one HAS:"
        + " a fraction in lowest terms: above (what 0), below the line (1).");
    // How many words one has, n, above, below.
    long[][] due = {{0, 0, 1, 1}, {0, 1, 0, 1}, {0, 17, 0, 1}, {1, 0, 1, 1}, {1, 1, 1, 12},
        {1, 17, 1, 2218611106740436992L}, {6, 17, 1, 131072}, {8, 17, 131072, 129140163},
        {9, 17, 129140163, 17179869184L}, {10, 2, 25, 36}, {11, 0, 1, 1}, {11, 1, 11, 12},
        {11, 17, 505447028499293771L, 2218611106740436992L}, {12, 0, 1, 1}, {12, 17, 1, 1}};
    for (long[] d : due) {
      TollSills x = new TollSills();
      x.person(4095 >> 12 - d[0]);
      t.is("above of " + d[0] + ", " + d[1], x.odds(0, (int) d[1], 0), d[2]);
      t.is("below of " + d[0] + ", " + d[1], x.odds(0, (int) d[1], 1), d[3]);
      t.is("nothing is drawn", x.count(6), 1);
    }
    t.says("BEYOND.");
    t.range("one", Towns::rich, 0, 2, (x, v) -> x.odds(v, 1, 0));
    t.range("n", Towns::rich, 0, 17, (x, v) -> x.odds(0, v, 0));
    t.range("what", Towns::rich, 0, 1, (x, v) -> x.odds(0, 1, v));
  }

  private void seed() {
    t.section("Promise 30");
    t.says("z becomes v: what it was.");
    TollSills x = new TollSills();
    int was = 1;
    for (int v : new int[] {0, -1, Integer.MIN_VALUE, Integer.MAX_VALUE, -1000001, -1000007, 1}) {
      t.is("what it was", x.seed(v), was);
      t.is("what it is", x.count(6), v);
      was = v;
    }
    t.is("never a finding", x.status(-1), 0);
  }

  private void feed() {
    t.section("Promise 31");
    t.says("THE TAPE gets the n lowest bytes of a number behind it, the highest of these first (n 1 to 4):"
        + " how many it has.");
    for (int n = 1; n <= 4; n++) {
      TollSills x = new TollSills();
      // The tape tells them by where the first of them that isn't a blank stands.
      t.is("how many", x.feed('!' << 8 * (n - 1) | blanks(n - 1), n), n);
      t.is("the highest of these first", x.text(), -1);
      x.feed(blanks(4) + 1, n);
      t.is("the lowest last", x.text(), -n);
      x.feed(n == 4 ? blanks(4) : 0x21212121 << 8 * n | blanks(n), n);
      t.is("and no other ones", x.text(), -1 - n);
    }
    TollSills y = new TollSills();
    t.is("behind what it has", y.feed('i', 1), 1);
    t.is("three", y.feed('n' << 8 | 'n', 2), 3);
    t.is("an inn", y.text(), 1);
    t.is("of that kind", y.of(0, 0), 4);
    t.says("BEYOND: n.");
    t.range("n", Towns::rich, 1, 4, (x, v) -> x.feed(0, v));
    t.says("FULL.");
    for (int n = 1; n <= 4; n++) {
      int many = n;
      t.refused("one too many by " + n, () -> fed(121 - many), Due.FULL, x -> x.feed(0x20202020, many));
      t.is("just so many by " + n, fed(120 - n).feed(0, n), 120);
      t.refused("at 120, " + n, () -> fed(120), Due.FULL, x -> x.feed(0x20202020, many));
    }
  }

  private static int blanks(int n) {
    return n == 0 ? 0 : 0x20202020 >>> 8 * (4 - n);
  }

  private static TollSills fed(int bytes) {
    TollSills x = new TollSills();
    StringBuilder text = new StringBuilder("sill");
    while (text.length() < bytes) {
      text.append(' ');
    }
    Due.feedByFours(x, text.toString());
    return x;
  }

  private void wipe() {
    t.section("Promise 32");
    t.says("THE TAPE is empty: how many it had.");
    TollSills x = fed(120);
    t.is("120", x.wipe(), 120);
    t.is("empty", x.count(5), 0);
    t.is("none", x.wipe(), 0);
    t.is("no finding", x.status(-1), 0);
    t.is("room for all again", x.feed('x', 1), 1);
    t.is("one", x.wipe(), 1);
    t.is("nothing to read", x.text(), -1);
  }

  private void text() {
    t.section("Promise 33");
    t.says("THE TAPE is a TEXT, and empty then; all that it tells is so, item by item: how many ITEMS.");
    TollSills x = fed(120);
    t.is("one item", x.text(), 1);
    t.is("empty then", x.count(5), 0);
    t.is("it is so", x.count(1), 1);
    Due.feedByFours(x, "cross 0 1 1;cross 0 2 2");
    t.is("two items", x.text(), 2);
    t.is("the later one holds", x.listed(0), 22);
    Due.feedByFours(x, "person in 1;sill");
    t.is("not by a later item", x.text(), -11);
    Due.feedByFours(x, "sill;person in 1");
    t.is("by an earlier item", x.text(), 2);
    t.is("in there", x.ofPerson(0, 1), 1);
    Due.feedByFours(x, "inn;inn;inn;inn;inn;inn;person;person;person;person;person");
    t.is("all that there is room for", x.text(), 11);
    t.is("sills", x.count(1), 8);
    t.is("people", x.count(2), 6);
    t.says("With a FAULT: -1 less the FAULT (nothing changes but that THE TAPE is empty; no finding).");
    String[] texts = {"", "door", "sill;", "person;inn;cross 0 0 0;cross 1 1 1;bare mended;sill keeps 12",
        "sill;sill;sill;sill;sill;sill", "person;person;person;person", "cross 5 5 7 7"};
    int[] faults = {0, 0, 5, 58, 25, 21, 12};
    for (int i = 0; i < texts.length; i++) {
      TollSills y = Towns.rich();
      TollSills twin = Towns.rich();
      y.wipe();
      twin.wipe();
      Due.feedByFours(y, texts[i]);
      t.is("fault of <" + texts[i] + ">", y.text(), -1 - faults[i]);
      t.is("empty", y.count(5), 0);
      for (int which = -1; which < 7; which++) {
        t.is("no finding " + which, y.status(which), twin.status(which));
      }
      t.alike("a fault", y, twin);
    }
  }
}
