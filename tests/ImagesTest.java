/** Promises 41 to 45: images, counts and findings. */
public final class ImagesTest {
  private static final Due due = new Due();

  public static void main(String[] args) {
    images();
    latestImage();
    counts();
    status();
    findingsChangeNothing();
    due.end();
  }

  private static void images() {
    TollSills x = Due.quarter("poor keeps 2 4;person has 6", "cross 2 3 4");
    x.go(3);
    x.hold(1, 0);
    x.seed(77);
    due.is("image", x.image(), 1);
    int lost = x.now(1);
    int kept = x.of(0, 5);
    int wear = x.of(0, 2);
    int has = x.ofPerson(0, 0);
    int in = x.ofPerson(0, 1);
    int crossed = x.ofPerson(0, 2);
    Due.feed(x, "sill");
    Due.sheet(x, 0, 8, 3, 1);
    x.list(2, 0, 0);
    x.hold(1, -1);
    x.hold(2, 0);
    x.change(0, 0, 6);
    x.change(0, 3, 1);
    x.change(0, 2, 500);
    x.send(0, 0, 4095);
    x.send(0, 1, in == -1 ? 0 : -1);
    x.send(0, 2, 999);
    x.lay(0, 11);
    x.sill(0);
    x.person(9);
    x.stroll(5);
    x.go(9);
    due.is("undo", x.undo(), 3);
    due.is("day", x.now(0), 3);
    due.is("lost", x.now(1), lost);
    due.is("sills", x.count(1), 1);
    due.is("people", x.count(2), 1);
    due.is("kind", x.of(0, 0), 3);
    due.is("kept", x.of(0, 5), kept);
    due.is("wear", x.of(0, 2), wear);
    due.is("mended", x.of(0, 3), 0);
    due.is("has", x.ofPerson(0, 0), has);
    due.is("in", x.ofPerson(0, 1), in);
    due.is("crossed", x.ofPerson(0, 2), crossed);
    due.is("list", x.listed(2), 34);
    due.is("z", x.count(6), 77);
    due.is("spot", x.as(1, 3), 0);
    due.is("spots", x.count(7), 1);
    due.is("the tape stays", x.count(5), 4);
    due.is("sheets stay", x.write(0, 1, 0), 1);
    due.is("undo again", x.undo(), 3);
    due.is("text", x.text(), 1);
    due.is("a new one is new", x.of(1, 1), 0);
  }

  private static void latestImage() {
    TollSills x = new TollSills();
    due.is("undo of nothing", x.undo(), Due.NONE);
    x.image();
    x.go(4);
    x.image();
    x.go(4);
    due.is("the latest", x.undo(), 4);
    x.go(9);
    due.is("which stays", x.undo(), 4);
    due.is("tear", x.tear(), 1);
    due.is("tear again", x.tear(), 0);
    due.is("nothing is kept", x.undo(), Due.NONE);
    due.is("day stays", x.now(0), 4);
    due.is("findings stay", x.status(3), 2);
    x.image();
    x.now(99);
    x.undo();
    due.is("undo takes no finding back", x.status(0), 1);
  }

  private static void counts() {
    TollSills x = Due.quarter("sill keeps 1 1;inn keeps 2;marble;person has 7;person");
    x.hold(0, 0);
    x.hold(3, 0);
    Due.feed(x, "abc");
    x.seed(-5);
    x.list(0, 0, 2);
    x.go(1);
    int[] want = {1, 3, 2, 1, 3, 3, -5, 2};
    for (int what = 0; what < 8; what++) {
      due.is("count " + what, x.count(what), want[what]);
    }
    due.is("count -1", x.count(-1), Due.BEYOND);
    due.is("count 8", x.count(8), Due.BEYOND);
  }

  private static void status() {
    TollSills x = new TollSills();
    x.now(-1);
    x.odds(0, 0, 0);
    for (int i = 0; i < 9; i++) {
      x.sill(0);
    }
    x.hold(0, 0);
    for (int i = 0; i < 3; i++) {
      x.as(0, 1);
    }
    for (int i = 0; i < 4; i++) {
      x.word(0, 0);
    }
    x.person(0);
    x.change(0, 3, 1);
    for (int i = 0; i < 5; i++) {
      x.cross(0, 0);
    }
    for (int i = 0; i < 6; i++) {
      x.judge(0);
    }
    for (int i = 0; i < 7; i++) {
      x.sheet(0, 8, -1);
    }
    int[] want = {2, 1, 3, 4, 5, 6, 7};
    for (int which = 0; which < 7; which++) {
      due.is("status " + which, x.status(which), want[which]);
    }
    due.is("status of all", x.status(-1), 28);
    due.is("status 7", x.status(7), Due.BEYOND);
    due.is("counted from then on", x.status(0), 3);
    due.is("status -2", x.status(-2), Due.BEYOND);
    due.is("of all then", x.status(-1), 30);
  }

  /** Each kind of finding leaves everything but status() as it was. */
  private static void findingsChangeNothing() {
    TollSills x = Due.quarter("inn keeps 2 4 6 8 10;person has 6 in 0");
    x.go(1);
    int day = x.now(0);
    x.go(61);
    x.stroll(21);
    x.lay(0, 12);
    x.list(0, 0, 8);
    x.feed(1, 9);
    x.hold(0, 5);
    x.change(0, 2, -1);
    x.send(0, 1, 4);
    due.is("findings", x.status(-1), 8);
    due.is("day", x.now(0), day);
    due.is("z", x.count(6), 1);
    due.is("list", x.listed(0), 0);
    due.is("tape", x.count(5), 0);
    due.is("spots", x.count(7), 0);
    due.is("wear", x.of(0, 2), 1);
    due.is("out", x.ofPerson(0, 1), -1);
  }
}
