/** Boundary cases of promises 34 to 40. */
final class SheetsEdges {
  private static final int MOST = Integer.MAX_VALUE;
  private static final int LEAST = Integer.MIN_VALUE;

  private final Edges t;

  private SheetsEdges(Edges t) {
    this.t = t;
  }

  static void run(Edges t) {
    SheetsEdges edges = new SheetsEdges(t);
    edges.hold();
    edges.as();
    edges.sheet();
    edges.write();
    edges.copy();
    edges.load();
    edges.judge();
  }

  private void hold() {
    t.section("Promise 34");
    t.says("A SPOT holds a SILL, or nothing (-1): 1.");
    TollSills x = Towns.full();
    for (int spot = 0; spot < 10; spot++) {
      t.is("holds the last one", x.hold(spot, 7), 1);
      t.is("the last one", x.as(spot, 0), 7);
      t.is("so many", x.count(7), spot + 1);
    }
    for (int spot = 0; spot < 10; spot++) {
      t.is("holds nothing", x.hold(spot, -1), 1);
      t.is("nothing", x.as(spot, 0), Due.MISSING);
      t.is("so many less", x.count(7), 9 - spot);
    }
    t.is("nothing again", x.hold(0, -1), 1);
    t.is("the first one", x.hold(0, 0), 1);
    t.is("holds the first one", x.as(0, 0), 0);
    t.says("BEYOND.");
    t.range("spot", Towns::rich, 0, 9, (y, v) -> y.hold(v, 1));
    t.range("sill", Towns::rich, -1, 2, (y, v) -> y.hold(2, v));
    t.range("nothing, where no sill is", TollSills::new, -1, -1, (y, v) -> y.hold(0, v));
  }

  private void as() {
    t.section("Promise 35");
    t.says("What a SPOT holds as one of a kind (0 to 6): the number of the SILL.");
    TollSills x = Towns.full();
    for (int kind = 0; kind < 7; kind++) {
      x.hold(9, kind);
      t.is("of its own kind", x.as(9, kind), kind);
      t.is("as a sill", x.as(9, 0), kind);
    }
    t.says("BEYOND.");
    t.range("spot", Towns::rich, 0, 9, (y, v) -> y.as(v, 0));
    t.range("kind", Towns::rich, 0, 6, (y, v) -> y.as(9, v));
    t.says("MISSING: it holds nothing.");
    t.refused("nothing", Towns::rich, Due.MISSING, y -> y.as(4, 0));
    t.is("something", Towns.rich().as(9, 0), 0);
    t.says("KIND: it isn't of that kind, nor of one under it.");
    // The kinds right above and right below each one.
    int[][] above = {{1, 0}, {2, 0}, {5, 0}, {3, 2}, {4, 3}, {6, 1}};
    for (int[] pair : above) {
      t.is("one of " + pair[0] + " as " + pair[1], spotOf(pair[0]).as(0, pair[1]), 0);
      t.refused("one of " + pair[1] + " as " + pair[0], () -> spotOf(pair[1]), Due.KIND, y -> y.as(0, pair[0]));
    }
    t.is("an inn as a saloon", spotOf(4).as(0, 2), 0);
    t.is("marble as a sill", spotOf(6).as(0, 0), 0);
    t.refused("an inn as a church", () -> spotOf(4), Due.KIND, y -> y.as(0, 1));
    t.refused("marble as a saloon", () -> spotOf(6), Due.KIND, y -> y.as(0, 2));
  }

  private static TollSills spotOf(int kind) {
    TollSills x = Towns.door(kind, 0);
    x.hold(0, 0);
    return x;
  }

  private void sheet() {
    t.section("Promise 36");
    t.says("A sheet has n numbers, all 0, of 8, 16 or 32 bits; bits 0: it is MISSING: n (0 if it is MISSING).");
    for (int bits = 8; bits <= 32; bits *= 2) {
      TollSills x = Towns.full();
      t.is("none of " + bits, x.sheet(0, bits, 0), 0);
      t.is("isn't missing", x.load(0), 0);
      t.is("no first one", x.write(0, 0, 0), Due.BEYOND);
      t.is("40 of " + bits, x.sheet(0, bits, 40), 40);
      t.is("all 0", x.load(0), 6);
      t.is("has none", x.now(2), 0);
      x.write(0, 0, 7);
      x.write(0, 5, 7);
      t.is("again", x.sheet(0, bits, 6), 6);
      x.load(0);
      t.is("all 0 again", x.now(2), 0);
      t.is("missing", x.sheet(0, 0, 6), 0);
      t.is("is missing", x.load(0), Due.MISSING);
      t.is("missing still", x.sheet(0, 0, 40), 0);
    }
    t.says("BEYOND: no such sheet, other bits.");
    t.range("sheet", Towns::rich, 0, 3, (y, v) -> y.sheet(v, 16, 2));
    t.range("sheet to be missing", Towns::rich, 0, 3, (y, v) -> y.sheet(v, 0, 0));
    for (int bits : new int[] {-8, -1, 1, 7, 9, 15, 17, 24, 31, 33, 64, LEAST, MOST}) {
      t.refused("bits " + bits, Towns::rich, Due.BEYOND, y -> y.sheet(0, bits, 2));
    }
    t.says("SIZE: n is below 0 (also with bits 0).");
    for (int bits : new int[] {0, 8, 16, 32}) {
      t.refused("-1 of " + bits, Towns::rich, Due.SIZE, y -> y.sheet(0, bits, -1));
      t.refused("least of " + bits, Towns::rich, Due.SIZE, y -> y.sheet(0, bits, LEAST));
      t.is("0 of " + bits, Towns.rich().sheet(0, bits, 0), 0);
    }
    t.says("BEYOND: n is above 40.");
    for (int bits : new int[] {0, 8, 16, 32}) {
      t.refused("41 of " + bits, Towns::rich, Due.BEYOND, y -> y.sheet(0, bits, 41));
      t.refused("most of " + bits, Towns::rich, Due.BEYOND, y -> y.sheet(0, bits, MOST));
      t.is("40 of " + bits, Towns.rich().sheet(0, bits, 40), bits == 0 ? 0 : 40);
    }
  }

  /** What number 0 of a sheet lets the only one have; -1, if it is no set. */
  private static int loaded(int bits, int v) {
    TollSills x = new TollSills();
    x.person(1);
    Due.sheet(x, 0, bits, v);
    return x.load(0) == 1 ? x.ofPerson(0, 0) : -1;
  }

  private void write() {
    t.section("Promise 37");
    t.says("Number i of a sheet becomes v (its lowest bits): 1.");
    t.is("8 bits of 127", loaded(8, 127), 127);
    t.is("8 bits of 128", loaded(8, 128), -1);
    t.is("8 bits of 255", loaded(8, 255), -1);
    t.is("8 bits of 256", loaded(8, 256), 0);
    t.is("8 bits of 383", loaded(8, 383), 127);
    t.is("8 bits of -256", loaded(8, -256), 0);
    t.is("8 bits of the least", loaded(8, LEAST), 0);
    t.is("16 bits of 4095", loaded(16, 4095), 4095);
    t.is("16 bits of 32768", loaded(16, 32768), -1);
    t.is("16 bits of 65536", loaded(16, 65536), 0);
    t.is("16 bits of 69631", loaded(16, 69631), 4095);
    t.is("16 bits of -65535", loaded(16, -65535), 1);
    t.is("32 bits of 4095", loaded(32, 4095), 4095);
    t.is("32 bits of 65536", loaded(32, 65536), -1);
    t.is("32 bits of the least", loaded(32, LEAST), -1);
    t.is("32 bits of the most", loaded(32, MOST), -1);
    TollSills x = Towns.full();
    t.is("the first", x.write(3, 0, 1), 1);
    t.is("the last", x.write(3, 39, 1), 1);
    t.says("BEYOND: no such sheet.");
    t.range("sheet", Towns::rich, 0, 3, (y, v) -> y.write(v, 0, 3));
    t.says("MISSING.");
    t.refused("a missing one", Towns::rich, Due.MISSING, y -> y.write(3, 0, 3));
    t.says("BEYOND: no such number.");
    t.range("number", Towns::rich, 0, 2, (y, v) -> y.write(0, v, 3));
    t.range("number of 40", Towns::full, 0, 39, (y, v) -> y.write(3, v, 3));
    t.refused("of no numbers", Towns::rich, Due.BEYOND, y -> y.write(2, 0, 3));
  }

  /** Six people; sheets 0 and 1 of 16 bits, of numbers 1 to 6 and of four 0s; sheet 2 of 8 bits. */
  private static TollSills copying() {
    TollSills x = new TollSills();
    for (int i = 0; i < 6; i++) {
      x.person(0);
    }
    Due.sheet(x, 0, 16, 1, 2, 3, 4, 5, 6);
    x.sheet(1, 16, 4);
    x.sheet(2, 8, 6);
    return x;
  }

  private void holds(TollSills x, int s, int... numbers) {
    x.load(s);
    for (int i = 0; i < numbers.length; i++) {
      t.is("number " + i, x.ofPerson(i, 0), numbers[i]);
    }
  }

  private void copy() {
    t.section("Promise 38");
    t.says("n numbers of a sheet from one on come to another one from one on (as they all were): n.");
    TollSills x = copying();
    t.is("none", x.copy(0, 0, 1, 0, 0), 0);
    t.is("none at the ends", x.copy(0, 6, 1, 4, 0), 0);
    holds(x, 1, 0, 0, 0, 0);
    t.is("all that have room", x.copy(0, 2, 1, 0, 4), 4);
    holds(x, 1, 3, 4, 5, 6);
    t.is("the last to the first", x.copy(0, 5, 1, 0, 1), 1);
    holds(x, 1, 6, 4, 5, 6);
    t.is("the first to the last", x.copy(0, 0, 1, 3, 1), 1);
    holds(x, 1, 6, 4, 5, 1);
    holds(x, 0, 1, 2, 3, 4, 5, 6);
    x.sheet(3, 16, 4);
    t.is("the second to the last sheet", x.copy(1, 1, 3, 0, 3), 3);
    holds(x, 3, 4, 5, 1, 0);
    t.is("the last to the first sheet", x.copy(3, 0, 0, 4, 2), 2);
    holds(x, 0, 1, 2, 3, 4, 4, 5);
    TollSills forth = copying();
    t.is("forth within one", forth.copy(0, 0, 0, 1, 5), 5);
    holds(forth, 0, 1, 1, 2, 3, 4, 5);
    TollSills back = copying();
    t.is("back within one", back.copy(0, 1, 0, 0, 5), 5);
    holds(back, 0, 2, 3, 4, 5, 6, 6);
    t.is("upon itself", back.copy(0, 0, 0, 0, 6), 6);
    holds(back, 0, 2, 3, 4, 5, 6, 6);
    t.is("40 numbers", Towns.full().copy(3, 0, 3, 0, 40), 40);
    t.says("BEYOND: no such sheet (either).");
    t.range("from a sheet", Towns::rich, 0, 3, (y, v) -> y.copy(v, 0, 0, 0, 0));
    t.range("to a sheet", Towns::rich, 0, 3, (y, v) -> y.copy(0, 0, v, 0, 0));
    t.says("MISSING: one is.");
    t.refused("the first", Towns::rich, Due.MISSING, y -> y.copy(3, 0, 0, 0, 0));
    t.refused("the second", Towns::rich, Due.MISSING, y -> y.copy(0, 0, 3, 0, 0));
    t.refused("both", Towns::rich, Due.MISSING, y -> y.copy(3, 0, 3, 0, 0));
    t.says("KIND: they are not of as many bits.");
    t.refused("16 to 8", SheetsEdges::copying, Due.KIND, y -> y.copy(0, 0, 2, 0, 1));
    t.refused("8 to 16", SheetsEdges::copying, Due.KIND, y -> y.copy(2, 0, 0, 0, 1));
    t.refused("none of other bits", SheetsEdges::copying, Due.KIND, y -> y.copy(2, 0, 0, 0, 0));
    t.refused("32 to 16", Towns::rich, Due.KIND, y -> y.copy(2, 0, 1, 0, 0));
    t.says("BEYOND: one has not so many, or from, to or n is below 0.");
    t.range("from", SheetsEdges::copying, 0, 5, (y, v) -> y.copy(0, v, 1, 0, 1));
    t.range("from, none", SheetsEdges::copying, 0, 6, (y, v) -> y.copy(0, v, 1, 0, 0));
    t.range("to", SheetsEdges::copying, 0, 3, (y, v) -> y.copy(0, 0, 1, v, 1));
    t.range("to, none", SheetsEdges::copying, 0, 4, (y, v) -> y.copy(0, 0, 1, v, 0));
    t.range("n by the second's room", SheetsEdges::copying, 0, 4, (y, v) -> y.copy(0, 0, 1, 0, v));
    t.range("n by the first's end", SheetsEdges::copying, 0, 2, (y, v) -> y.copy(0, 4, 1, 0, v));
    t.range("n by the second's end", SheetsEdges::copying, 0, 1, (y, v) -> y.copy(0, 0, 1, 3, v));
    t.range("n by the first", SheetsEdges::copying, 0, 4, (y, v) -> y.copy(1, 0, 0, 0, v));
    // Sums of these wrap around.
    int[][] far = {{1, 0, MOST}, {0, 1, MOST}, {MOST, 0, MOST}, {0, MOST, MOST}, {MOST, MOST, MOST}, {MOST, MOST, 2},
        {LEAST, LEAST, LEAST}, {LEAST, 0, MOST}, {MOST, 0, LEAST}, {-1, -1, 2}, {7, 0, -1}};
    for (int[] f : far) {
      t.refused("from " + f[0] + " to " + f[1] + ", " + f[2], SheetsEdges::copying, Due.BEYOND,
          y -> y.copy(0, f[0], 1, f[1], f[2]));
    }
  }

  private static TollSills loading(int bits, int... numbers) {
    TollSills x = new TollSills();
    x.person(11);
    x.person(12);
    x.person(13);
    Due.sheet(x, 0, bits, numbers);
    return x;
  }

  private void load() {
    t.section("Promise 39");
    t.says("Numbers of a sheet, from its begin on, become what PEOPLE 0, 1, .. HAVE: how many came.");
    TollSills none = loading(8);
    t.is("a sheet of none", none.load(0), 0);
    t.is("has as before", none.ofPerson(0, 0), 11);
    TollSills one = loading(8, 7);
    t.is("a sheet of one", one.load(0), 1);
    t.is("the first", one.ofPerson(0, 0), 7);
    t.is("the second as before", one.ofPerson(1, 0), 12);
    TollSills all = Towns.full();
    for (int i = 0; i < 6; i++) {
      all.write(3, i, 4095 - 2 * i);
    }
    t.is("40 for six", all.load(3), 6);
    t.is("the last one", all.ofPerson(5, 0), 4085);
    t.says("It ends at the first that isn't 0 to 4095, or for which there is nobody.");
    int[] wrong = {-1, 4096, MOST, LEAST};
    for (int v : wrong) {
      for (int at = 0; at < 3; at++) {
        int[] row = {0, 4095, 1};
        row[at] = v;
        TollSills x = loading(32, row);
        t.is(v + " at " + at, x.load(0), at);
        for (int i = 0; i < 3; i++) {
          t.is("has " + i, x.ofPerson(i, 0), i < at ? row[i] : 11 + i);
        }
        t.is("no finding", x.status(-1), 0);
      }
    }
    TollSills ends = loading(16, 0, 4095, 0);
    t.is("0 and 4095", ends.load(0), 3);
    t.is("has 0", ends.ofPerson(0, 0), 0);
    t.is("has 4095", ends.ofPerson(1, 0), 4095);
    TollSills more = loading(8, 1, 2, 3, 4);
    t.is("four for three", more.load(0), 3);
    t.is("the third", more.ofPerson(2, 0), 3);
    t.is("still three", more.count(2), 3);
    TollSills nobody = new TollSills();
    nobody.sheet(0, 8, 1);
    t.is("nobody at all", nobody.load(0), 0);
    t.says("BEYOND: no such sheet.");
    t.range("sheet", Towns::rich, 0, 3, (y, v) -> y.load(v));
    t.says("MISSING.");
    t.refused("a missing one", Towns::rich, Due.MISSING, y -> y.load(3));
    t.is("one of none", Towns.rich().load(2), 0);
  }

  private static int judged(int... numbers) {
    TollSills x = Towns.full();
    Due.sheet(x, 0, 8, numbers);
    return x.judge(0);
  }

  private void judge() {
    t.section("Promise 40");
    t.says("THE READER: numbers of a sheet are WORDS that SILL 0 KEEPS, in order: 0 if so;"
        + " else 1 and the place of the first that isn't so.");
    t.is("all five", judged(11, 10, 9, 8, 7), 0);
    t.is("none told", judged(), 0);
    t.is("one told", judged(11), 0);
    t.is("four told", judged(11, 10, 9, 8), 0);
    t.is("six told", judged(11, 10, 9, 8, 7, 6), 6);
    t.is("the first wrong", judged(10, 10, 9, 8, 7), 1);
    t.is("the last wrong", judged(11, 10, 9, 8, 8), 5);
    t.is("two wrong", judged(11, 9, 10, 8, 7), 2);
    t.is("no word -1", judged(-1), 1);
    t.is("no word 12", judged(11, 12), 2);
    TollSills forty = Towns.full();
    t.is("40 of another row", forty.judge(3), 1);
    TollSills empty = Towns.door(0, 0);
    Towns.sill(empty, 0, 5);
    empty.sheet(0, 8, 0);
    t.is("none kept, none told", empty.judge(0), 0);
    Due.sheet(empty, 0, 8, 5);
    t.is("none kept, one told", empty.judge(0), 1);
    Due.sheet(empty, 0, 8, 0);
    t.is("none kept, 0 told", empty.judge(0), 1);
    TollSills nothing = new TollSills();
    nothing.sheet(0, 8, 0);
    t.is("no sill, none told", nothing.judge(0), 0);
    nothing.sheet(0, 8, 1);
    t.is("no sill, one told", nothing.judge(0), 1);
    t.says("BEYOND: no such sheet.");
    t.range("sheet", Towns::rich, 0, 3, (y, v) -> y.judge(v));
    t.says("MISSING.");
    t.refused("a missing one", Towns::rich, Due.MISSING, y -> y.judge(3));
    t.is("one of none", Towns.rich().judge(2), 0);
  }
}
