/** Boundary cases of promises 21 to 27. */
final class SendingEdges {
  private final Edges t;

  private SendingEdges(Edges t) {
    this.t = t;
  }

  static void run(Edges t) {
    SendingEdges edges = new SendingEdges(t);
    edges.sillFor();
    edges.kindFor();
    edges.wordFor();
    edges.mend();
    edges.seek();
    edges.fits();
    edges.kinds();
  }

  /** Sills of one kind, and one with all words; on all days but those of a place nobody crosses. */
  private static TollSills street(int sills, int kind, int place) {
    TollSills x = new TollSills();
    for (int i = 0; i < sills; i++) {
      x.sill(kind);
    }
    x.person(4095);
    for (int i = 0; i < 6; i++) {
      x.list(i, i == place ? 0 : 5, 0);
    }
    return x;
  }

  /** Tries everything that looks ahead. */
  private static TollSills planned() {
    TollSills x = Towns.rich();
    x.sillFor(0, 60);
    x.kindFor(0, 60);
    x.wordFor(0, 1, 60);
    x.mend(0, 0, 20);
    x.seek(0, 3);
    x.fits(0, 0);
    x.kinds(0, 0);
    return x;
  }

  private void sillFor() {
    t.section("Promise 21");
    t.says("The SILL (0 to 7) over which place i of THE LIST must send its one, so that LOST is least behind"
        + " n (0 to 60) DAYS.");
    TollSills x = street(8, 6, 0);
    t.is("all marble: the least", x.sillFor(0, 1), 0);
    x.change(7, 0, 0);
    t.is("the last one", x.sillFor(0, 1), 7);
    t.is("behind no day", x.sillFor(0, 0), 0);
    t.is("behind 60 days", x.sillFor(0, 60), 7);
    x.change(6, 0, 0);
    t.is("the least of two", x.sillFor(0, 1), 6);
    t.is("the list stays", x.listed(0), 0);
    TollSills last = street(8, 6, 5);
    last.change(3, 3, 1);
    t.is("the last place, not yet", last.sillFor(5, 5), 0);
    t.is("the last place", last.sillFor(5, 6), 3);
    TollSills lastOne = Towns.full();
    for (int i = 0; i < 8; i++) {
      lastOne.change(i, 0, i == 4 ? 1 : 6);
    }
    lastOne.list(0, 5, 7);
    t.is("of the last one", lastOne.sillFor(0, 1), 4);
    lastOne.list(0, 5, 0);
    lastOne.send(4, 0, 0);
    t.is("of the last one, over the first sill now", lastOne.sillFor(0, 1), 4);
    lastOne.send(5, 0, 0);
    t.is("who loses nothing", lastOne.sillFor(0, 1), 0);
    TollSills few = street(2, 6, 2);
    t.is("one that isn't there", few.sillFor(2, 3), 2);
    t.is("of an empty quarter", new TollSills().sillFor(5, 60), 0);
    t.alike("planning", planned(), Towns.rich());
    t.says("BEYOND.");
    t.range("place", Towns::rich, 0, 5, (y, v) -> y.sillFor(v, 1));
    t.range("n", Towns::rich, 0, 60, (y, v) -> y.sillFor(0, v));
  }

  private void kindFor() {
    t.section("Promise 22");
    t.says("The KIND of which a SILL must be for that.");
    TollSills x = Towns.inside(6, 1 << 11, 11);
    t.is("behind no day", x.kindFor(0, 0), 0);
    // What one has already is lost, coming out, of all but a bare one.
    t.is("behind one day", x.kindFor(0, 1), 5);
    t.is("behind 60 days", x.kindFor(0, 60), 5);
    t.is("the kind stays", x.of(0, 0), 6);
    TollSills y = Towns.door(6, 1 << 10, 1, 2, 3, 4);
    t.is("one that holds five", y.kindFor(0, 1), 2);
    y.lay(0, 5);
    t.is("none holds six: the least", y.kindFor(0, 1), 0);
    TollSills last = street(8, 6, 0);
    last.list(0, 0, 7);
    t.is("of the last sill", last.kindFor(7, 1), 0);
    t.alike("planning", planned(), Towns.rich());
    t.says("BEYOND.");
    t.range("sill", Towns::rich, 0, 2, (z, v) -> z.kindFor(v, 1));
    t.range("n", Towns::rich, 0, 60, (z, v) -> z.kindFor(0, v));
  }

  /** One leaves a word at a sill, another one goes in and comes out with it behind three days. */
  private static TollSills handing(int otherHas) {
    TollSills x = street(1, 0, 0);
    x.person(otherHas);
    x.list(1, 1, 0);
    x.list(2, 1, 0);
    return x;
  }

  private void wordFor() {
    t.section("Promise 23");
    t.says("The WORD that one must HAVE now, alone, for another one to HAVE it behind n (0 to 60) DAYS (and not now).");
    t.is("the first word", handing(0).wordFor(0, 1, 3), 0);
    t.is("the last word", handing(2047).wordFor(0, 1, 3), 11);
    t.is("just behind three days", handing(2047).wordFor(0, 1, 2), Due.NONE);
    t.is("behind no day", handing(0).wordFor(0, 1, 0), Due.NONE);
    t.is("behind 60 days", handing(0).wordFor(0, 1, 60) == Due.BEYOND ? 1 : 0, 0);
    TollSills x = handing(0);
    t.is("alone, though one has all", x.wordFor(0, 1, 3), 0);
    t.is("has them still", x.ofPerson(0, 0), 4095);
    t.is("the other way", x.wordFor(1, 0, 3), Due.NONE);
    t.alike("planning", planned(), Towns.rich());
    t.says("BEYOND: also one and the same.");
    t.range("from", Towns::rich, 0, 2, (y, v) -> y.wordFor(v, v == 0 ? 1 : 0, 1));
    t.range("to", Towns::rich, 0, 2, (y, v) -> y.wordFor(v == 0 ? 1 : 0, v, 1));
    t.range("n", Towns::rich, 0, 60, (y, v) -> y.wordFor(0, 1, v));
    for (int one = 0; one < 3; one++) {
      int same = one;
      t.refused("one and the same, " + one, Towns::rich, Due.BEYOND, y -> y.wordFor(same, same, 1));
    }
    t.says("NONE.");
    t.refused("the other one has all now", () -> handing(4095), Due.NONE, y -> y.wordFor(0, 1, 3));
    t.refused("nobody crosses", SendingEdges::twoWithoutSills, Due.NONE, y -> y.wordFor(0, 1, 60));
  }

  private static TollSills twoWithoutSills() {
    TollSills x = street(0, 0, 0);
    x.person(0);
    return x;
  }

  private void mend() {
    t.section("Promise 24");
    t.says("The set of fewest SILLS such that, if these are MENDED, too, from now on, one HASN'T a WORD behind"
        + " n (0 to 20) DAYS; of several the least.");
    TollSills x = street(8, 0, 0);
    x.send(0, 0, 0);
    for (int i = 0; i < 6; i++) {
      x.list(i, 0, 5 + i / 2);
    }
    for (int sill = 5; sill < 8; sill++) {
      x.lay(sill, 5);
    }
    t.is("none is needed", x.mend(0, 4, 6), 0);
    t.is("the three last ones", x.mend(0, 5, 6), 32 | 64 | 128);
    t.is("two behind four days", x.mend(0, 5, 4), 32 | 64);
    t.is("one behind two", x.mend(0, 5, 2), 32);
    t.is("none behind one", x.mend(0, 5, 1), 0);
    x.change(7, 3, 1);
    t.is("one is mended already", x.mend(0, 5, 6), 32 | 64);
    x.change(6, 3, 1);
    x.change(5, 3, 1);
    t.is("all are mended already", x.mend(0, 5, 6), 0);
    t.is("still so", x.of(4, 3), 0);
    TollSills far = street(1, 0, 1);
    far.send(0, 0, 1 << 5);
    // In on days 1 and 13, out on days 7 and 19.
    t.is("behind 19 days", far.mend(0, 5, 19), 0);
    t.is("behind 20 days", far.mend(0, 5, 20), Due.NONE);
    far.send(0, 0, 0);
    far.lay(0, 5);
    t.is("just behind 20 days", far.mend(0, 5, 20), 1);
    t.is("not behind 19", far.mend(0, 5, 19), 0);
    t.is("several", severalWays().mend(0, 5, 4), 1);
    t.alike("planning", planned(), Towns.rich());
    t.says("BEYOND.");
    t.range("one", Towns::rich, 0, 2, (y, v) -> y.mend(v, 0, 1));
    t.range("word", Towns::rich, 0, 11, (y, v) -> y.mend(0, v, 1));
    t.range("n", Towns::rich, 0, 20, (y, v) -> y.mend(0, 0, v));
    t.says("NONE.");
    t.refused("has it now, behind no day", () -> Towns.door(0, 1), Due.NONE, y -> y.mend(0, 0, 0));
    t.is("hasn't it now, behind no day", Towns.door(0, 1).mend(0, 1, 0), 0);
    t.refused("has it, and no sill is there", () -> street(0, 0, 0), Due.NONE, y -> y.mend(0, 11, 20));
    t.refused("has it, and goes in with another", () -> Towns.door(0, 3), Due.NONE, y -> y.mend(0, 0, 1));
  }

  /** A word comes from sill 0 to sill 1 by somebody else, and from there to one: either cut does. */
  private static TollSills severalWays() {
    TollSills x = new TollSills();
    Towns.sill(x, 0, 5);
    x.sill(0);
    x.person(0);
    x.person(0);
    x.send(0, 1, 1);
    x.send(1, 1, 0);
    x.list(0, 1, 0);
    x.list(1, 1, 1);
    x.list(2, 0, 1);
    x.list(3, 5, 7);
    return x;
  }

  private void seek() {
    t.section("Promise 25");
    t.says("If one, out now, crossed SILLS 0, 1, .. (that aren't MENDED) one by one, in and out again, and nobody else any:"
        + " the number of the SILL behind which it HAS a WORD first.");
    TollSills x = seeking(0);
    t.is("the last sill", x.seek(0, 11), 7);
    x.lay(3, 11);
    t.is("the first of two", x.seek(0, 11), 3);
    x.change(3, 3, 1);
    t.is("not a mended one", x.seek(0, 11), 7);
    x.lay(0, 11);
    t.is("the first sill", x.seek(0, 11), 0);
    t.is("out still", x.ofPerson(0, 1), -1);
    t.is("no wear", x.now(6), 0);
    t.alike("planning", planned(), Towns.rich());
    t.says("BEYOND.");
    t.range("one", Towns::rich, 0, 2, (y, v) -> y.seek(v, 0));
    t.range("word", Towns::rich, 0, 11, (y, v) -> y.seek(0, v));
    t.says("STATE: it is IN a house, or HAS it already.");
    t.refused("in a house", () -> Towns.inside(0, 0, 5), Due.STATE, y -> y.seek(0, 5));
    t.refused("has it already", () -> Towns.door(0, 1 << 5, 5), Due.STATE, y -> y.seek(0, 5));
    t.is("neither", Towns.door(0, 1 << 4, 5).seek(0, 5), 0);
    t.says("NONE.");
    t.refused("nowhere kept", () -> seeking(0), Due.NONE, y -> y.seek(0, 10));
    t.refused("the last one is mended", () -> seeking(1), Due.NONE, y -> y.seek(0, 11));
    t.refused("no sill at all", () -> {
      TollSills y = new TollSills();
      y.person(1);
      return y;
    }, Due.NONE, y -> y.seek(0, 11));
  }

  /** Eight sills, of which the last keeps word 11. */
  private static TollSills seeking(int mended) {
    TollSills x = street(8, 0, 0);
    x.send(0, 0, 1);
    x.lay(7, 11);
    x.change(7, 3, mended);
    return x;
  }

  private static int[] row(int size, int number, int last) {
    int[] row = new int[size];
    java.util.Arrays.fill(row, number);
    row[size - 1] = last;
    return row;
  }

  private void fits() {
    t.section("Promise 26");
    t.says("How many CROSSINGS (one of 0 to 5 over a SILL of 0 to 7: 48 of them) the place of THE LIST for this DAY"
        + " could tell, so that what one HAS now and behind each DAY further on is as a sheet tells (-1: any).");
    TollSills x = Towns.full();
    x.sheet(0, 16, 0);
    t.is("a sheet of none", x.fits(0, 5), 48);
    Due.sheet(x, 0, 16, 4090);
    t.is("now", x.fits(0, 5), 48);
    Due.sheet(x, 0, 16, 4091);
    t.is("not now", x.fits(0, 5), 0);
    Due.sheet(x, 0, 16, row(40, -1, -1));
    t.is("any for 40 days", x.fits(0, 5), 48);
    for (int bits = 8; bits <= 32; bits *= 2) {
      Due.sheet(x, 0, bits, -1);
      t.is("any in " + bits + " bits", x.fits(0, 0), 48);
    }
    TollSills still = street(0, 0, 0);
    Due.sheet(still, 0, 32, row(40, 4095, 4095));
    t.is("40 days alike", still.fits(0, 0), 48);
    Due.sheet(still, 0, 32, row(40, 4095, 4094));
    t.is("another one on the last of them", still.fits(0, 0), 0);
    TollSills day5 = street(8, 0, 5);
    day5.go(5);
    Due.sheet(day5, 0, 16, 4095, 2047);
    t.is("of the last place: over any of eight", day5.fits(0, 0), 8);
    Due.sheet(day5, 0, 16, 4095, 4095);
    t.is("of the last place: by nobody there", day5.fits(0, 0), 40);
    TollSills any = Towns.full();
    for (int i = 0; i < 8; i++) {
      any.change(i, 0, 0);
    }
    Due.sheet(any, 0, 16, 4090, 4090 - 2048);
    t.is("the last one over any of eight", any.fits(0, 5), 8);
    for (int open : new int[] {0, 7}) {
      TollSills one = Towns.full();
      for (int i = 0; i < 8; i++) {
        one.change(i, 0, 0);
        one.change(i, 3, i == open ? 0 : 1);
      }
      Due.sheet(one, 0, 16, 4090, 4090 - 2048);
      t.is("the last one over sill " + open + " alone", one.fits(0, 5), 1);
      Due.sheet(one, 0, 16, 4090, 4090);
      t.is("all but that", one.fits(0, 5), 47);
    }
    Due.sheet(day5, 0, 16, 4095, 2047, 2047, 2047, 2047, 2047, 2047, 4095);
    t.is("out again six days more", day5.fits(0, 0), 8);
    t.is("the list stays", day5.listed(5), 0);
    t.alike("planning", planned(), Towns.rich());
    t.says("BEYOND: no such sheet.");
    t.range("sheet", Towns::rich, 0, 3, (y, v) -> y.fits(v, 0));
    t.says("MISSING.");
    t.refused("a missing one", Towns::rich, Due.MISSING, y -> y.fits(3, 0));
    t.is("one of none", Towns.rich().fits(2, 0), 48);
    t.says("BEYOND: no such one.");
    t.range("one", Towns::rich, 0, 2, (y, v) -> y.fits(0, v));
  }

  private void kinds() {
    t.section("Promise 27");
    t.says("KINDS that a SILL could be of, as a set, so that how many WORDS it KEEPS now and behind each DAY further on"
        + " is as a sheet tells (-1: any).");
    TollSills x = Towns.full();
    x.sheet(0, 8, 0);
    t.is("a sheet of none", x.kinds(0, 7), 127);
    Due.sheet(x, 0, 8, 5);
    t.is("now", x.kinds(0, 0), 127);
    Due.sheet(x, 0, 8, 4);
    t.is("not now", x.kinds(0, 0), 0);
    Due.sheet(x, 0, 8, 0);
    t.is("none now", x.kinds(0, 7), 127);
    for (int bits = 8; bits <= 32; bits *= 2) {
      Due.sheet(x, 0, bits, -1);
      t.is("any in " + bits + " bits", x.kinds(0, 0), 127);
    }
    TollSills still = street(1, 0, 0);
    still.change(0, 3, 1);
    Due.sheet(still, 0, 8, row(40, 0, 0));
    t.is("40 days alike", still.kinds(0, 0), 127);
    Due.sheet(still, 0, 8, row(40, 0, 1));
    t.is("another on the last of them", still.kinds(0, 0), 0);
    Due.sheet(still, 0, 8, row(40, -1, -1));
    t.is("any for 40 days", still.kinds(0, 0), 127);
    TollSills comes = Towns.door(0, 1 << 4);
    Due.sheet(comes, 0, 8, 0, 1, 0);
    t.is("one comes and goes", comes.kinds(0, 0), 127 - 32 - 64);
    Due.sheet(comes, 0, 8, 0, 1, 1);
    t.is("one comes and stays", comes.kinds(0, 0), 32);
    Due.sheet(comes, 0, 8, 0, 0);
    t.is("none comes", comes.kinds(0, 0), 64);
    Due.sheet(comes, 0, 8, 1, 1);
    t.is("not from now on", comes.kinds(0, 0), 0);
    int[] holding = {64, 16 | 64, 1 | 16 | 32 | 64, 1 | 2 | 8 | 16 | 32 | 64, 127};
    for (int kept = 2; kept <= 5; kept++) {
      int[] odd = new int[kept];
      java.util.Arrays.fill(odd, 1);
      TollSills full = Towns.door(0, 1 << 4, odd);
      Due.sheet(full, 0, 8, kept, kept);
      t.is("kinds that hold no more than " + kept, full.kinds(0, 0), holding[kept - 1]);
    }
    t.alike("planning", planned(), Towns.rich());
    t.says("BEYOND: no such sheet.");
    t.range("sheet", Towns::rich, 0, 3, (y, v) -> y.kinds(v, 0));
    t.says("MISSING.");
    t.refused("a missing one", Towns::rich, Due.MISSING, y -> y.kinds(3, 0));
    t.is("one of none", Towns.rich().kinds(2, 0), 127);
    t.says("BEYOND: no such SILL.");
    t.range("sill", Towns::rich, 0, 2, (y, v) -> y.kinds(0, v));
  }
}
