/** Boundary cases of promises 41 to 45. */
final class ImagesEdges {
  private final Edges t;

  private ImagesEdges(Edges t) {
    this.t = t;
  }

  static void run(Edges t) {
    ImagesEdges edges = new ImagesEdges(t);
    edges.image();
    edges.undo();
    edges.tear();
    edges.count();
    edges.status();
  }

  /** Everything of a full quarter becomes otherwise. */
  private static void upset(TollSills x) {
    for (int i = 0; i < 6; i++) {
      x.list(i, 5 - i, 7 - i);
      x.send(i, 0, i);
      x.send(i, 1, i);
      x.send(i, 2, 9000 + i);
    }
    for (int i = 0; i < 8; i++) {
      x.change(i, 0, (i + 1) % 7);
      x.change(i, 2, 9990 + i);
      x.change(i, 3, 1);
      x.lay(i, i);
      x.hold(i, 7 - i);
    }
    x.stroll(20);
    x.seed(-9);
  }

  private void image() {
    t.section("Promise 41");
    t.says("All but THE TAPE and SHEETS is kept: 1.");
    TollSills x = Towns.full();
    t.is("kept", x.image(), 1);
    upset(x);
    x.undo();
    x.tear();
    t.alike("what was kept", x, Towns.full());
    TollSills y = Towns.full();
    y.image();
    y.wipe();
    y.feed('x', 1);
    y.sheet(3, 8, 2);
    y.sheet(0, 16, 1);
    y.undo();
    t.is("the tape is as it is", y.count(5), 1);
    t.is("a sheet is as it is", y.write(3, 2, 0), Due.BEYOND);
    t.is("another, too", y.write(0, 0, 0), 1);
    TollSills none = new TollSills();
    t.is("of an empty quarter", none.image(), 1);
    none.sill(0);
    none.person(0);
    none.hold(0, 0);
    none.undo();
    t.is("no sills", none.count(1), 0);
    t.is("nobody", none.count(2), 0);
    t.is("no spots", none.count(7), 0);
  }

  private void undo() {
    t.section("Promise 42");
    t.says("It becomes what was kept latest (which stays): DAY.");
    TollSills x = new TollSills();
    x.image();
    x.go(60);
    x.image();
    x.go(1);
    t.is("the latest", x.undo(), 60);
    x.go(1);
    t.is("which stays", x.undo(), 60);
    t.is("and again", x.undo(), 60);
    t.is("day", x.now(0), 60);
    x.sill(0);
    x.undo();
    t.is("nothing that came behind it", x.count(1), 0);
    TollSills first = new TollSills();
    first.image();
    first.go(3);
    t.is("day 0", first.undo(), 0);
    t.says("NONE: nothing is kept.");
    t.refused("nothing was kept", Towns::full, Due.NONE, y -> y.undo());
    t.refused("it was torn", () -> {
      TollSills y = Towns.rich();
      y.tear();
      return y;
    }, Due.NONE, y -> y.undo());
    t.is("something is kept", Towns.rich().undo(), 2);
  }

  private void tear() {
    t.section("Promise 43");
    t.says("Nothing is kept: 1 if something was, else 0.");
    TollSills x = new TollSills();
    t.is("nothing was", x.tear(), 0);
    x.image();
    x.image();
    t.is("something was", x.tear(), 1);
    t.is("no more", x.tear(), 0);
    t.is("nothing to undo", x.undo(), Due.NONE);
    x.image();
    x.undo();
    t.is("something was again", x.tear(), 1);
    t.is("one finding", x.status(-1), 1);
  }

  private void count() {
    t.section("Promise 44");
    t.says("0 DAY, 1 SILLS, 2 PEOPLE, 3 LOST, 4 how many WORDS are KEPT in all, 5 bytes of THE TAPE, 6 z,"
        + " 7 SPOTS that hold something.");
    TollSills none = new TollSills();
    TollSills all = Towns.full();
    for (int sill = 1; sill < 8; sill++) {
      for (int i = 0; i < 5; i++) {
        all.lay(sill, i);
      }
    }
    for (int spot = 0; spot < 10; spot++) {
      all.hold(spot, 0);
    }
    all.seed(Integer.MIN_VALUE);
    // The last place sends one over marble.
    for (int i = 0; i < 6; i++) {
      all.list(i, 0, i == 5 ? 6 : 0);
    }
    all.change(0, 3, 1);
    all.go(6);
    int[] due = {6, 8, 6, 1, 40, 120, Integer.MIN_VALUE, 10};
    for (int what = 0; what < 8; what++) {
      t.is("of nothing, " + what, none.count(what), what == 6 ? 1 : 0);
      t.is("of all, " + what, all.count(what), due[what]);
    }
    t.is("z is no finding", all.status(-1), 0);
    t.says("BEYOND: another what.");
    t.range("what", Towns::rich, 0, 7, (y, v) -> y.count(v));
  }

  private void status() {
    t.section("Promise 45");
    t.says("How many acts answered a finding ever (undo() takes none back): which -1: all, 0 to 6: BEYOND to SIZE.");
    TollSills x = Towns.full();
    for (int which = -1; which < 7; which++) {
      t.is("none at first", x.status(which), 0);
    }
    x.image();
    x.hold(0, 0);
    x.change(7, 3, 1);
    int[] told = {-1000001, -1000002, -1000003, -1000004, -1000005, -1000006, -1000007};
    for (int which = 0; which < 7; which++) {
      for (int i = 0; i <= which; i++) {
        t.is("finding " + which, find(x, which), told[which]);
        t.is("counted", x.status(which), i + 1);
      }
    }
    t.is("all", x.status(-1), 28);
    x.undo();
    x.tear();
    for (int which = 0; which < 7; which++) {
      t.is("undo takes none back, " + which, x.status(which), which + 1);
    }
    t.is("none of all", x.status(-1), 28);
    t.says("BEYOND (counted from then on): another one.");
    t.range("which", Towns::rich, -1, 6, (y, v) -> y.status(v));
    t.is("another one", x.status(7), Due.BEYOND);
    t.is("counted from then on", x.status(0), 2);
    t.is("another one below", x.status(-2), Due.BEYOND);
    t.is("of all", x.status(-1), 30);
  }

  /** One finding of each kind. */
  private static int find(TollSills x, int which) {
    switch (which) {
      case 0:
        return x.listed(6);
      case 1:
        return x.person(0);
      case 2:
        return x.as(0, 6);
      case 3:
        return x.word(1, 0);
      case 4:
        return x.cross(0, 7);
      case 5:
        return x.judge(0);
      default:
        return x.sheet(0, 0, -1);
    }
  }
}
