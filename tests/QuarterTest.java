/** Promises 1 to 13: a new object, the list, sills, people, crossings. */
public final class QuarterTest {
  private static final Due due = new Due();

  public static void main(String[] args) {
    aNewObject();
    theList();
    newSills();
    newPeople();
    ofSills();
    words();
    changes();
    lays();
    sends();
    takes();
    crossingIn();
    crossingOut();
    crossingEdges();
    due.end();
  }

  private static void aNewObject() {
    TollSills x = new TollSills();
    for (int what = 0; what <= 7; what++) {
      due.is("new now " + what, x.now(what), 0);
      due.is("new count " + what, x.count(what), what == 6 ? 1 : 0);
    }
    for (int i = 0; i < 6; i++) {
      due.is("new listed " + i, x.listed(i), 0);
    }
    due.is("new status", x.status(-1), 0);
    due.is("new sill", x.of(0, 0), Due.BEYOND);
    due.is("new person", x.ofPerson(0, 0), Due.BEYOND);
    due.is("new wipe", x.wipe(), 0);
    due.is("new tear", x.tear(), 0);
    due.is("new undo", x.undo(), Due.NONE);
    for (int s = 0; s < 4; s++) {
      due.is("new sheet " + s, x.judge(s), Due.MISSING);
    }
    for (int spot = 0; spot < 10; spot++) {
      due.is("new spot " + spot, x.as(spot, 0), Due.MISSING);
    }
  }

  private static void theList() {
    TollSills x = new TollSills();
    due.is("list was", x.list(0, 5, 7), 0);
    due.is("list was 57", x.list(0, 3, 2), 57);
    due.is("listed 0", x.listed(0), 32);
    due.is("list 5", x.list(5, 0, 7), 0);
    due.is("listed 5", x.listed(5), 7);
    due.is("listed 1", x.listed(1), 0);
    int[][] wrong = {{-1, 0, 0}, {6, 0, 0}, {0, -1, 0}, {0, 6, 0}, {0, 0, -1}, {0, 0, 8},
        {Integer.MIN_VALUE, 0, 0}, {Integer.MAX_VALUE, 0, 0}};
    for (int[] w : wrong) {
      due.is("list beyond", x.list(w[0], w[1], w[2]), Due.BEYOND);
    }
    due.is("listed stays", x.listed(0), 32);
    due.is("listed -1", x.listed(-1), Due.BEYOND);
    due.is("listed 6", x.listed(6), Due.BEYOND);
    due.is("counted", x.status(0), 10);
  }

  private static void newSills() {
    TollSills x = new TollSills();
    due.is("sill -1", x.sill(-1), Due.BEYOND);
    due.is("sill 7", x.sill(7), Due.BEYOND);
    for (int i = 0; i < 8; i++) {
      due.is("sill", x.sill(i % 7), i);
    }
    due.is("9th sill", x.sill(0), Due.FULL);
    due.is("9th sill of no kind", x.sill(7), Due.BEYOND);
    due.is("sills", x.count(1), 8);
  }

  private static void newPeople() {
    TollSills x = new TollSills();
    due.is("person -1", x.person(-1), Due.BEYOND);
    due.is("person 4096", x.person(4096), Due.BEYOND);
    for (int i = 0; i < 6; i++) {
      due.is("person", x.person(i == 5 ? 4095 : i), i);
      due.is("has", x.ofPerson(i, 0), i == 5 ? 4095 : i);
      due.is("out", x.ofPerson(i, 1), -1);
      due.is("crossed", x.ofPerson(i, 2), 0);
    }
    due.is("7th person", x.person(0), Due.FULL);
    due.is("7th person of no words", x.person(4096), Due.BEYOND);
    due.is("people", x.count(2), 6);
  }

  private static void ofSills() {
    TollSills x = new TollSills();
    int[] holds = {3, 4, 5, 4, 2, 3, 0};
    int[] first = {7, 7, 9, 7, 7, -1, 7};
    int[] worn = {7, 7, 9, 9, 9, -1, 7};
    for (int kind = 0; kind < 7; kind++) {
      x.sill(kind);
      due.is("kind", x.of(kind, 0), kind);
      due.is("keeps none", x.of(kind, 1), 0);
      due.is("wear", x.of(kind, 2), 0);
      due.is("mended", x.of(kind, 3), 0);
      due.is("holds of " + kind, x.of(kind, 4), holds[kind]);
      due.is("set", x.of(kind, 5), 0);
      due.is("gives none", x.of(kind, 6), -1);
      x.lay(kind, 7);
      x.lay(kind, 3);
      x.lay(kind, 9);
      due.is("keeps", x.of(kind, 1), 3);
      due.is("kept set", x.of(kind, 5), 1 << 7 | 1 << 3 | 1 << 9);
      due.is("gives of " + kind, x.of(kind, 6), first[kind]);
      x.change(kind, 2, 1);
      due.is("gives worn of " + kind, x.of(kind, 6), worn[kind]);
      x.change(kind, 2, 2);
      due.is("gives worn 2 of " + kind, x.of(kind, 6), worn[kind]);
      x.change(kind, 2, 9999);
      due.is("gives worn 9999 of " + kind, x.of(kind, 6), first[kind]);
    }
    due.is("of -1", x.of(-1, 0), Due.BEYOND);
    due.is("of 7", x.of(7, 0), Due.BEYOND);
    due.is("of what -1", x.of(0, -1), Due.BEYOND);
    due.is("of what 7", x.of(0, 7), Due.BEYOND);
  }

  private static void words() {
    TollSills x = new TollSills();
    x.sill(0);
    due.is("word of none", x.word(0, 0), Due.NONE);
    x.lay(0, 4);
    x.lay(0, 11);
    x.lay(0, 4);
    due.is("word 0", x.word(0, 0), 4);
    due.is("word 1", x.word(0, 1), 11);
    due.is("word 2", x.word(0, 2), 4);
    due.is("word 3", x.word(0, 3), Due.NONE);
    due.is("word far", x.word(0, Integer.MAX_VALUE), Due.NONE);
    due.is("word -1", x.word(0, -1), Due.BEYOND);
    due.is("word of sill 1", x.word(1, 0), Due.BEYOND);
    due.is("word of sill -1", x.word(-1, 9), Due.BEYOND);
  }

  private static void changes() {
    TollSills x = new TollSills();
    x.sill(3);
    due.is("kind was", x.change(0, 0, 6), 3);
    due.is("kind", x.of(0, 0), 6);
    due.is("holds now", x.of(0, 4), 0);
    due.is("wear was", x.change(0, 2, 9999), 0);
    due.is("wear was 9999", x.change(0, 2, 0), 9999);
    due.is("mended was", x.change(0, 3, 1), 0);
    due.is("mended", x.of(0, 3), 1);
    due.is("mended was 1", x.change(0, 3, 0), 1);
    int[][] wrong = {{-1, 0, 0}, {1, 0, 0}, {0, 1, 0}, {0, 4, 0}, {0, -1, 0}, {0, 0, -1}, {0, 0, 7},
        {0, 2, -1}, {0, 2, 10000}, {0, 3, -1}, {0, 3, 2}, {0, 5, 0}, {0, 6, 0}};
    for (int[] w : wrong) {
      due.is("change beyond", x.change(w[0], w[1], w[2]), Due.BEYOND);
    }
    due.is("unchanged kind", x.of(0, 0), 6);
    due.is("unchanged wear", x.of(0, 2), 0);
    due.is("unchanged mended", x.of(0, 3), 0);
  }

  private static void lays() {
    TollSills x = new TollSills();
    x.sill(6);
    due.is("lay -1", x.lay(0, -1), Due.BEYOND);
    due.is("lay 12", x.lay(0, 12), Due.BEYOND);
    due.is("lay on none", x.lay(1, 0), Due.BEYOND);
    due.is("lay on -1", x.lay(-1, 0), Due.BEYOND);
    for (int i = 1; i <= 5; i++) {
      due.is("lay", x.lay(0, i == 5 ? 11 : 0), i);
    }
    due.is("sixth", x.lay(0, 3), Due.FULL);
    due.is("sixth of no word", x.lay(0, 12), Due.BEYOND);
    due.is("set", x.of(0, 5), 1 | 1 << 11);
    due.is("in all", x.now(7), 5);
    due.is("count 4", x.count(4), 5);
  }

  private static void sends() {
    TollSills x = new TollSills();
    x.person(5);
    x.sill(0);
    x.sill(0);
    due.is("has was", x.send(0, 0, 4095), 5);
    due.is("has was 4095", x.send(0, 0, 0), 4095);
    due.is("in was out", x.send(0, 1, 1), -1);
    due.is("in", x.ofPerson(0, 1), 1);
    due.is("in was 1", x.send(0, 1, -1), 1);
    due.is("crossed was", x.send(0, 2, 9999), 0);
    due.is("crossed", x.ofPerson(0, 2), 9999);
    due.is("crossed was 9999", x.send(0, 2, 0), 9999);
    x.send(0, 2, 9999);
    int[][] wrong = {{-1, 0, 0}, {1, 0, 0}, {0, -1, 0}, {0, 3, 0}, {0, 0, -1}, {0, 0, 4096},
        {0, 1, -2}, {0, 1, 2}, {0, 2, -1}, {0, 2, 10000}};
    for (int[] w : wrong) {
      due.is("send beyond", x.send(w[0], w[1], w[2]), Due.BEYOND);
    }
    due.is("stays has", x.ofPerson(0, 0), 0);
    due.is("stays out", x.ofPerson(0, 1), -1);
    due.is("stays crossed", x.ofPerson(0, 2), 9999);
    due.is("ofPerson 1", x.ofPerson(1, 0), Due.BEYOND);
    due.is("ofPerson -1", x.ofPerson(-1, 0), Due.BEYOND);
    due.is("ofPerson what -1", x.ofPerson(0, -1), Due.BEYOND);
    due.is("ofPerson what 3", x.ofPerson(0, 3), Due.BEYOND);
  }

  private static void takes() {
    TollSills x = new TollSills();
    for (int kind = 0; kind < 7; kind++) {
      x.sill(kind);
      due.is("takes of none", x.takes(kind, 0), Due.NONE);
    }
    int mixed = 1 << 1 | 1 << 2 | 1 << 6 | 1 << 9;
    int[] ofMixed = {9, 1, 6, 6, 6, 9, 1};
    int odd = 1 << 3 | 1 << 5 | 1 << 11;
    int[] ofOdd = {11, 3, Due.NONE, 11, 11, 11, 3};
    for (int kind = 0; kind < 7; kind++) {
      due.is("takes of mixed " + kind, x.takes(kind, mixed), ofMixed[kind]);
      due.is("takes of odd " + kind, x.takes(kind, odd), ofOdd[kind]);
      due.is("takes 0 " + kind, x.takes(kind, 1), 0);
    }
    due.is("takes of all", x.takes(2, 4095), 10);
    x.lay(4, 6);
    x.lay(3, 6);
    due.is("inn keeps it", x.takes(4, mixed), Due.NONE);
    due.is("inn keeps another", x.takes(4, odd), 11);
    due.is("poor keeps it", x.takes(3, mixed), 6);
    due.is("takes -1", x.takes(-1, 1), Due.BEYOND);
    due.is("takes 7", x.takes(7, 1), Due.BEYOND);
    due.is("takes words -1", x.takes(0, -1), Due.BEYOND);
    due.is("takes words 4096", x.takes(0, 4096), Due.BEYOND);
    due.is("takes nothing away", x.of(4, 1), 1);
  }

  private static void crossingIn() {
    int[] taken = {8, 1, 8, 8, 8, 8, 1};
    int[] left = {1 << 1, 1 << 8, 1 << 1, 1 << 1, 1 << 1, 1 << 1, 1 << 8};
    for (int kind = 0; kind < 7; kind++) {
      TollSills x = new TollSills();
      x.sill(kind);
      x.person(1 << 1 | 1 << 8);
      due.is("goes in " + kind, x.cross(0, 0), taken[kind]);
      due.is("has left " + kind, x.ofPerson(0, 0), left[kind]);
      due.is("is in", x.ofPerson(0, 1), 0);
      due.is("crossed", x.ofPerson(0, 2), 1);
      due.is("wear", x.of(0, 2), 1);
      due.is("lost of " + kind, x.now(1), kind == 6 ? 1 : 0);
      due.is("kept of " + kind, x.of(0, 1), kind == 6 ? 0 : 1);
      due.is("no day", x.now(0), 0);
    }
    int[] holds = {3, 4, 5, 4, 2, 3, 0};
    for (int kind = 0; kind < 7; kind++) {
      TollSills x = new TollSills();
      x.sill(kind);
      for (int i = 0; i < holds[kind]; i++) {
        x.lay(0, i);
      }
      x.person(1 << 10);
      due.is("goes in full " + kind, x.cross(0, 0), 10);
      due.is("lost", x.now(1), 1);
      due.is("kept as before", x.of(0, 1), holds[kind]);
      due.is("has none", x.ofPerson(0, 0), 0);
    }
    TollSills y = new TollSills();
    y.sill(0);
    y.lay(0, 2);
    y.lay(0, 9);
    y.person(1 << 4);
    y.cross(0, 0);
    due.is("behind all", y.word(0, 2), 4);
    y.person(0);
    due.is("of one without words", y.cross(1, 0), -1);
    due.is("who is in", y.now(4), 3);
    due.is("worn", y.of(0, 2), 2);
  }

  private static void crossingOut() {
    int[] given = {3, 3, 7, 3, 3, -1, 3};
    for (int kind = 0; kind < 7; kind++) {
      TollSills x = new TollSills();
      x.sill(kind);
      x.lay(0, 3);
      x.lay(0, 5);
      x.lay(0, 7);
      x.person(0);
      x.send(0, 1, 0);
      due.is("comes out " + kind, x.cross(0, 0), given[kind]);
      due.is("has it", x.ofPerson(0, 0), given[kind] < 0 ? 0 : 1 << given[kind]);
      due.is("is out", x.ofPerson(0, 1), -1);
      due.is("keeps", x.of(0, 1), given[kind] < 0 ? 3 : 2);
      due.is("next in order", x.word(0, 0), given[kind] == 3 ? 5 : 3);
      due.is("and then", x.word(0, 1), given[kind] == 3 ? 7 : 5);
    }
    TollSills y = new TollSills();
    y.sill(3);
    y.change(0, 2, 4);
    y.lay(0, 6);
    y.lay(0, 8);
    y.lay(0, 6);
    y.person(1 << 6);
    y.send(0, 1, 0);
    due.is("gives the last, twice kept", y.cross(0, 0), 6);
    due.is("had it: lost", y.now(1), 1);
    due.is("has it", y.ofPerson(0, 0), 1 << 6);
    due.is("keeps the first", y.word(0, 0), 6);
    due.is("keeps the second", y.word(0, 1), 8);
    due.is("keeps two", y.of(0, 1), 2);
    TollSills z = new TollSills();
    z.sill(0);
    z.person(0);
    z.send(0, 1, 0);
    due.is("comes out with none", z.cross(0, 0), -1);
    due.is("wears", z.of(0, 2), 1);
  }

  private static void crossingEdges() {
    TollSills x = new TollSills();
    x.sill(0);
    x.sill(0);
    x.person(6);
    due.is("no such one", x.cross(1, 0), Due.BEYOND);
    due.is("no such sill", x.cross(0, 2), Due.BEYOND);
    due.is("one -1", x.cross(-1, 0), Due.BEYOND);
    due.is("sill -1", x.cross(0, -1), Due.BEYOND);
    x.change(0, 3, 1);
    due.is("mended", x.cross(0, 0), Due.STATE);
    due.is("still out", x.ofPerson(0, 1), -1);
    due.is("in at 1", x.cross(0, 1), 2);
    x.change(0, 3, 0);
    due.is("in another house", x.cross(0, 0), Due.STATE);
    x.change(1, 3, 1);
    due.is("mended, inside", x.cross(0, 1), Due.STATE);
    x.change(1, 3, 0);
    x.change(1, 2, 9999);
    x.send(0, 2, 9999);
    due.is("out again", x.cross(0, 1), 2);
    due.is("wear at most", x.of(1, 2), 9999);
    due.is("crossed at most", x.ofPerson(0, 2), 9999);
    due.is("states", x.status(4), 3);
    TollSills y = new TollSills();
    y.sill(3);
    y.lay(0, 1);
    y.lay(0, 2);
    y.person(0);
    y.send(0, 1, 0);
    y.change(0, 2, 2);
    due.is("gives by the wear before it", y.cross(0, 0), 2);
  }
}
