/** Boundary cases of promises 1 to 13. */
final class QuarterEdges {
  private final Edges t;

  private QuarterEdges(Edges t) {
    this.t = t;
  }

  static void run(Edges t) {
    QuarterEdges edges = new QuarterEdges(t);
    edges.aNewObject();
    edges.list();
    edges.sill();
    edges.person();
    edges.of();
    edges.word();
    edges.change();
    edges.lay();
    edges.ofPerson();
    edges.send();
    edges.takes();
    edges.cross();
  }

  private void aNewObject() {
    t.section("Promise 1");
    t.says("All as at first; no SILLS, no PEOPLE; THE TAPE is empty, no image is kept.");
    TollSills x = new TollSills();
    t.is("status", x.status(-1), 0);
    for (int what = 0; what < 8; what++) {
      t.is("now " + what, x.now(what), 0);
      t.is("count " + what, x.count(what), what == 6 ? 1 : 0);
    }
    t.is("no first sill", x.of(0, 0), Due.BEYOND);
    t.is("nobody", x.ofPerson(0, 0), Due.BEYOND);
    t.is("empty tape", x.wipe(), 0);
    t.is("no image", x.tear(), 0);
    t.is("nothing to undo", x.undo(), Due.NONE);
    t.is("a missing sheet", x.load(0), Due.MISSING);
    t.is("an empty spot", x.as(9, 0), Due.MISSING);
    for (int i = 0; i < 6; i++) {
      t.is("listed " + i, x.listed(i), 0);
    }
    TollSills used = Towns.rich();
    t.alike("another object", new TollSills(), new TollSills());
    t.is("is its own", used.count(1), 3);
  }

  private void list() {
    t.section("Promise 2");
    t.says("THE LIST tells in place i (0 to 5) a CROSSING of one (0 to 5) over a SILL (0 to 7): which it was"
        + " (10 * PERSON and SILL).");
    TollSills x = new TollSills();
    t.is("the last place, one and sill", x.list(5, 5, 7), 0);
    t.is("which it was", x.list(5, 0, 0), 57);
    t.is("which is 0 again", x.listed(5), 0);
    t.is("one and sill that aren't there", x.count(1) + x.count(2), 0);
    t.says("BEYOND.");
    t.range("place", Towns::rich, 0, 5, (y, v) -> y.list(v, 1, 1));
    t.range("one", Towns::rich, 0, 5, (y, v) -> y.list(1, v, 1));
    t.range("sill", Towns::rich, 0, 7, (y, v) -> y.list(1, 1, v));
    t.section("Promise 3");
    t.says("The CROSSING in a place of THE LIST.");
    TollSills z = Towns.rich();
    t.is("the first place", z.listed(0), 0);
    t.is("the last place", z.listed(5), 10);
    t.says("BEYOND.");
    t.range("place", Towns::rich, 0, 5, (y, v) -> y.listed(v));
  }

  private void sill() {
    t.section("Promise 4");
    t.says("A new SILL: its number.");
    TollSills x = new TollSills();
    for (int i = 0; i < 8; i++) {
      t.is("its number", x.sill(6 - i % 7), i);
      t.is("its kind", x.of(i, 0), 6 - i % 7);
    }
    t.is("all of them", x.count(1), 8);
    t.says("BEYOND.");
    t.range("kind", Towns::rich, 0, 6, (y, v) -> y.sill(v));
    t.says("FULL.");
    t.refused("a ninth", Towns::full, Due.FULL, y -> y.sill(6));
    TollSills y = new TollSills();
    y.image();
    Towns.sill(y, 3, 1, 2);
    y.change(0, 2, 9);
    y.change(0, 3, 1);
    y.undo();
    t.is("a new one where one was", y.sill(1), 0);
    for (int what = 1; what <= 3; what++) {
      t.is("is as at first, " + what, y.of(0, what), 0);
    }
  }

  private void person() {
    t.section("Promise 5");
    t.says("A new one, who HAS WORDS (a set), out: the number.");
    TollSills x = new TollSills();
    for (int i = 0; i < 6; i++) {
      t.is("the number", x.person(i % 2 == 0 ? 4095 : 0), i);
      t.is("has", x.ofPerson(i, 0), i % 2 == 0 ? 4095 : 0);
      t.is("out", x.ofPerson(i, 1), -1);
    }
    t.is("all of them", x.count(2), 6);
    t.says("BEYOND.");
    t.range("words", Towns::rich, 0, 4095, (y, v) -> y.person(v));
    t.says("FULL.");
    t.refused("a seventh", Towns::full, Due.FULL, y -> y.person(4095));
    TollSills y = Towns.door(0, 0);
    y.image();
    y.person(7);
    y.send(1, 1, 0);
    y.send(1, 2, 9);
    y.undo();
    t.is("a new one where one was", y.person(0), 1);
    t.is("is out", y.ofPerson(1, 1), -1);
    t.is("never crossed", y.ofPerson(1, 2), 0);
  }

  private void of() {
    t.section("Promise 6");
    t.says("Of a SILL: what 0 KIND, 1 how many WORDS it KEEPS, 2 WEAR, 3 MENDED, 4 HOLDS, 5 WORDS that it KEEPS,"
        + " as a set, 6 which it would GIVE now (-1: none).");
    TollSills x = Towns.door(6, 0, 11, 0, 11, 0, 11);
    x.change(0, 2, 9999);
    x.change(0, 3, 1);
    int[] due = {6, 5, 9999, 1, 0, 2049, 11};
    for (int what = 0; what < 7; what++) {
      t.is("of what " + what, x.of(0, what), due[what]);
    }
    TollSills empty = Towns.door(0, 0);
    int[] dueOfNone = {0, 0, 0, 0, 3, 0, -1};
    for (int what = 0; what < 7; what++) {
      t.is("of an empty one what " + what, empty.of(0, what), dueOfNone[what]);
    }
    t.is("bare gives none", Towns.door(5, 0, 1).of(0, 6), -1);
    t.is("gives word 0", Towns.door(0, 0, 0).of(0, 6), 0);
    t.says("BEYOND.");
    t.range("sill", Towns::rich, 0, 2, (y, v) -> y.of(v, 0));
    t.range("the eighth sill", Towns::full, 0, 7, (y, v) -> y.of(v, 6));
    t.range("what", Towns::rich, 0, 6, (y, v) -> y.of(0, v));
    t.refused("of no sill at all", TollSills::new, Due.BEYOND, y -> y.of(0, 0));
  }

  private void word() {
    t.section("Promise 7");
    t.says("The WORD that a SILL KEEPS in place i (from 0: the first).");
    TollSills x = Towns.full();
    for (int i = 0; i < 5; i++) {
      t.is("word " + i, x.word(0, i), 11 - i);
    }
    t.says("BEYOND: no such SILL, i is below 0.");
    t.range("sill", Towns::rich, 0, 2, (y, v) -> y.word(v, 0));
    for (int i : new int[] {-1, Integer.MIN_VALUE}) {
      t.refused("place " + i, Towns::rich, Due.BEYOND, y -> y.word(0, i));
    }
    t.is("place 0", Towns.rich().word(1, 0) == Due.BEYOND ? 1 : 0, 0);
    t.says("NONE: there are not so many.");
    for (int kept = 0; kept <= 5; kept++) {
      int many = kept;
      t.refused("behind " + kept, () -> Towns.door(0, 0, new int[many]), Due.NONE, y -> y.word(0, many));
      if (kept > 0) {
        t.is("the last of " + kept, Towns.door(0, 0, new int[kept]).word(0, kept - 1), 0);
      }
    }
    t.refused("far", Towns::rich, Due.NONE, y -> y.word(0, Integer.MAX_VALUE));
  }

  private void change() {
    t.section("Promise 8");
    t.says("KIND (what 0), WEAR (2), MENDED (3) of a SILL becomes v: what it was.");
    TollSills x = Towns.full();
    int[] whats = {0, 2, 3};
    int[] most = {6, 9999, 1};
    for (int i = 0; i < 3; i++) {
      int was = x.of(7, whats[i]);
      t.is("to the most, " + whats[i], x.change(7, whats[i], most[i]), was);
      t.is("what it is", x.of(7, whats[i]), most[i]);
      t.is("to the least, " + whats[i], x.change(7, whats[i], 0), most[i]);
      t.is("what it is then", x.of(7, whats[i]), 0);
    }
    t.says("BEYOND.");
    t.range("sill", Towns::rich, 0, 2, (y, v) -> y.change(v, 0, 6));
    t.range("kind", Towns::rich, 0, 6, (y, v) -> y.change(0, 0, v));
    t.range("wear", Towns::rich, 0, 9999, (y, v) -> y.change(0, 2, v));
    t.range("mended", Towns::rich, 0, 1, (y, v) -> y.change(0, 3, v));
    for (int what : new int[] {-1, 1, 4, 5, 6, 7, Integer.MIN_VALUE, Integer.MAX_VALUE}) {
      t.refused("what " + what, Towns::rich, Due.BEYOND, y -> y.change(0, what, 1));
    }
  }

  private void lay() {
    t.section("Promise 9");
    t.says("A SILL KEEPS a WORD (0 to 11) behind all others: how many then.");
    TollSills x = Towns.door(6, 0);
    x.change(0, 3, 1);
    for (int i = 1; i <= 5; i++) {
      t.is("how many", x.lay(0, i % 2 == 0 ? 0 : 11), i);
      t.is("behind all others", x.word(0, i - 1), i % 2 == 0 ? 0 : 11);
    }
    t.is("more than it holds, none lost", x.now(1), 0);
    t.says("BEYOND.");
    t.range("sill", Towns::rich, 0, 2, (y, v) -> y.lay(v, 0));
    t.range("word", Towns::rich, 0, 11, (y, v) -> y.lay(0, v));
    t.says("FULL: there are 5.");
    t.refused("a sixth", Towns::full, Due.FULL, y -> y.lay(0, 0));
    t.is("a fifth", Towns.door(0, 0, 1, 1, 1, 1).lay(0, 1), 5);
    t.is("a first at another one", Towns.full().lay(1, 1), 1);
  }

  private void ofPerson() {
    t.section("Promise 10");
    t.says("Of one: what 0 HAS, 1 IN (-1: out), 2 CROSSED.");
    TollSills x = Towns.full();
    x.send(5, 0, 4095);
    x.send(5, 1, 7);
    x.send(5, 2, 9999);
    int[] due = {4095, 7, 9999};
    for (int what = 0; what < 3; what++) {
      t.is("of the last one, what " + what, x.ofPerson(5, what), due[what]);
    }
    t.is("out", x.ofPerson(4, 1), -1);
    x.send(4, 1, 0);
    t.is("in the first one's house", x.ofPerson(4, 1), 0);
    t.says("BEYOND.");
    t.range("one", Towns::rich, 0, 2, (y, v) -> y.ofPerson(v, 0));
    t.range("the sixth one", Towns::full, 0, 5, (y, v) -> y.ofPerson(v, 0));
    t.range("what", Towns::rich, 0, 2, (y, v) -> y.ofPerson(0, v));
    t.refused("of nobody at all", TollSills::new, Due.BEYOND, y -> y.ofPerson(0, 0));
  }

  private void send() {
    t.section("Promise 11");
    t.says("HAS (what 0), IN (1: -1, too), CROSSED (2) of one becomes v: what it was.");
    TollSills x = Towns.full();
    int[] least = {0, -1, 0};
    int[] most = {4095, 7, 9999};
    for (int what = 0; what < 3; what++) {
      int was = x.ofPerson(5, what);
      t.is("to the most, " + what, x.send(5, what, most[what]), was);
      t.is("what it is", x.ofPerson(5, what), most[what]);
      t.is("to the least, " + what, x.send(5, what, least[what]), most[what]);
      t.is("what it is then", x.ofPerson(5, what), least[what]);
    }
    TollSills mended = Towns.rich();
    mended.send(2, 1, -1);
    t.is("in a mended one's house", mended.send(2, 1, 2), -1);
    t.is("is there", mended.ofPerson(2, 1), 2);
    t.says("BEYOND.");
    t.range("one", Towns::rich, 0, 2, (y, v) -> y.send(v, 0, 9));
    t.range("has", Towns::rich, 0, 4095, (y, v) -> y.send(0, 0, v));
    t.range("in", Towns::rich, -1, 2, (y, v) -> y.send(0, 1, v));
    t.range("crossed", Towns::rich, 0, 9999, (y, v) -> y.send(0, 2, v));
    for (int what : new int[] {-1, 3, Integer.MIN_VALUE, Integer.MAX_VALUE}) {
      t.refused("what " + what, Towns::rich, Due.BEYOND, y -> y.send(0, what, 1));
    }
  }

  private void takes() {
    t.section("Promise 12");
    t.says("Which WORD a SILL would TAKE of one who HAS a set (0 to 4095).");
    TollSills x = Towns.full();
    int[] ofAll = {11, 0, 10, 10, 10, 11, 0};
    for (int kind = 0; kind < 7; kind++) {
      t.is("of all words, " + kind, x.takes(kind, 4095), ofAll[kind]);
      t.is("of word 0, " + kind, x.takes(kind, 1), 0);
    }
    x.change(0, 3, 1);
    t.is("a mended one, by its kind", x.takes(0, 4095), 11);
    t.is("keeps as before", x.of(0, 1), 5);
    t.says("BEYOND.");
    t.range("sill", Towns::rich, 0, 2, (y, v) -> y.takes(v, 1));
    t.range("set", Towns::rich, 0, 4095, (y, v) -> y.takes(1, v));
    t.says("NONE.");
    t.refused("of none", Towns::rich, Due.NONE, y -> y.takes(1, 0));
    t.refused("no even one", Towns::rich, Due.NONE, y -> y.takes(2, 2));
    t.is("an even one", Towns.rich().takes(2, 3), 0);
    t.refused("what an inn keeps", () -> Towns.door(4, 0, 5, 2), Due.NONE, y -> y.takes(0, 4));
    t.is("what it doesn't keep", Towns.door(4, 0, 5, 2).takes(0, 8), 3);
  }

  private void cross() {
    t.section("Promise 13");
    t.says("One crosses a SILL now, besides: the WORD that was taken (going in) or given (coming out), -1: none.");
    TollSills x = Towns.door(0, 1);
    t.is("word 0 is taken", x.cross(0, 0), 0);
    t.is("no day goes by", x.now(0), 0);
    t.is("word 0 is given", x.cross(0, 0), 0);
    x.send(0, 0, 0);
    t.is("none is taken", x.cross(0, 0), -1);
    t.is("none is given", x.cross(0, 0), -1);
    t.is("crossed each time", x.ofPerson(0, 2), 4);
    t.is("wear each time", x.of(0, 2), 4);
    t.is("taken and lost", Towns.door(6, 1 << 11).cross(0, 0), 11);
    t.is("given and lost", Towns.inside(0, 1 << 11, 11).cross(0, 0), 11);
    t.says("BEYOND.");
    t.range("one", Towns::rich, 0, 2, (y, v) -> y.cross(v, 0));
    t.range("sill", Towns::rich, 0, 2, (y, v) -> y.cross(0, v));
    t.refused("nobody and no sill at all", TollSills::new, Due.BEYOND, y -> y.cross(0, 0));
    t.says("STATE: MENDED, or one is IN another house.");
    t.refused("mended, out", () -> mended(Towns.door(0, 1, 2)), Due.STATE, y -> y.cross(0, 0));
    t.refused("mended, in", () -> mended(Towns.inside(0, 1, 2)), Due.STATE, y -> y.cross(0, 0));
    t.refused("in another house", () -> inAnother(0), Due.STATE, y -> y.cross(0, 1));
    t.refused("in another house, which is mended", () -> mended(inAnother(0)), Due.STATE, y -> y.cross(0, 1));
    t.is("in this house", inAnother(0).cross(0, 0), -1);
    t.is("out", inAnother(-1).cross(0, 1), 0);
  }

  private static TollSills mended(TollSills x) {
    x.change(0, 3, 1);
    return x;
  }

  /** Two sills, and one with word 0 who is where it is told. */
  private static TollSills inAnother(int in) {
    TollSills x = Towns.door(0, 1);
    x.sill(0);
    x.send(0, 1, in);
    return x;
  }
}
