/** Boundary cases of promises 14 to 20. */
final class DaysEdges {
  private final Edges t;

  private DaysEdges(Edges t) {
    this.t = t;
  }

  static void run(Edges t) {
    DaysEdges edges = new DaysEdges(t);
    edges.go();
    edges.now();
    edges.ahead();
    edges.later();
    edges.hears();
    edges.waste();
    edges.mute();
  }

  /** One with words 0 to 11 who crosses marble every day: in on even days, and a word is lost. */
  private static TollSills forgetful() {
    return Towns.door(6, 4095);
  }

  private void go() {
    t.section("Promise 14");
    t.says("n DAYS (1 to 60): LOST then.");
    TollSills x = forgetful();
    t.is("one day", x.go(1), 1);
    t.is("day 1", x.now(0), 1);
    t.is("60 days", x.go(60), 12);
    t.is("day 61", x.now(0), 61);
    t.is("crossed each day", x.ofPerson(0, 2), 61);
    t.is("an empty quarter", new TollSills().go(60), 0);
    t.says("BEYOND.");
    t.range("n", Towns::rich, 1, 60, (y, v) -> y.go(v));
    t.says("STATE: DAY would be above 99999.");
    // Farther than 512 calls come.
    t.refused("40 days behind 99960", Towns::late, Due.STATE, y -> y.go(40));
    t.refused("60 days behind 99960", Towns::late, Due.STATE, y -> y.go(60));
    TollSills late = Towns.late();
    t.is("39 days behind 99960", late.go(39), 12);
    t.is("the last day", late.now(0), 99999);
    t.is("one more", late.go(1), Due.STATE);
  }

  private void now() {
    t.section("Promise 15");
    t.says("What 0 DAY, 1 LOST, 2 WORDS that somebody HAS, as a set, 3 WORDS that are KEPT, as a set,"
        + " 4 who is IN a house, as a set, 5 who HAS no WORD, as a set, 6 WEAR of all together,"
        + " 7 how many WORDS are KEPT in all.");
    TollSills none = new TollSills();
    TollSills all = new TollSills();
    for (int i = 0; i < 8; i++) {
      Towns.sill(all, 0, i, 11, 11, 11, 8 + i % 4);
      all.change(i, 2, 9999);
    }
    for (int i = 0; i < 6; i++) {
      all.person(3 << 2 * i);
      all.send(i, 1, 7 - i);
    }
    int[] due = {0, 0, 4095, 4095, 63, 0, 79992, 40};
    for (int what = 0; what < 8; what++) {
      t.is("of nothing, what " + what, none.now(what), 0);
      t.is("of all, what " + what, all.now(what), due[what]);
    }
    for (int i = 0; i < 6; i++) {
      all.send(i, 0, 0);
      all.send(i, 1, -1);
    }
    t.is("nobody has any", all.now(2), 0);
    t.is("nobody is in", all.now(4), 0);
    t.is("all are without", all.now(5), 63);
    all.send(5, 1, 0);
    t.is("the last one is in the first house", all.now(4), 32);
    TollSills lost = forgetful();
    lost.go(1);
    t.is("day", lost.now(0), 1);
    t.is("lost", lost.now(1), 1);
    t.says("BEYOND.");
    t.range("what", Towns::rich, 0, 7, (y, v) -> y.now(v));
  }

  private void ahead() {
    t.section("Promise 16");
    t.says("What 1, 2, 5, 6 (as in of()) of a SILL behind n (0 to 100) DAYS.");
    TollSills x = Towns.door(0, 1 << 11, 3);
    int[] whats = {1, 2, 5, 6};
    int[] now = {1, 0, 8, 3};
    int[] next = {2, 1, 8 | 2048, 3};
    int[] then = {1, 2, 2048, 11};
    int[] far = {1, 100, 8, 3};
    for (int i = 0; i < 4; i++) {
      t.is("behind none, what " + whats[i], x.ahead(0, whats[i], 0), now[i]);
      t.is("behind one, what " + whats[i], x.ahead(0, whats[i], 1), next[i]);
      t.is("behind two, what " + whats[i], x.ahead(0, whats[i], 2), then[i]);
      t.is("behind 100, what " + whats[i], x.ahead(0, whats[i], 100), far[i]);
    }
    t.is("none to give", Towns.door(0, 0).ahead(0, 6, 100), -1);
    x.change(0, 2, 9950);
    t.is("wear at most", x.ahead(0, 2, 100), 9999);
    t.is("wear just so", x.ahead(0, 2, 49), 9999);
    t.is("wear ahead of it", x.ahead(0, 2, 48), 9998);
    t.alike("looking ahead", looked(), Towns.rich());
    t.says("BEYOND.");
    t.range("sill", Towns::rich, 0, 2, (y, v) -> y.ahead(v, 1, 0));
    t.range("n", Towns::rich, 0, 100, (y, v) -> y.ahead(0, 1, v));
    for (int what : new int[] {-1, 0, 3, 4, 7, Integer.MIN_VALUE, Integer.MAX_VALUE}) {
      t.refused("what " + what, Towns::rich, Due.BEYOND, y -> y.ahead(0, what, 1));
    }
  }

  /** Looked ahead of in all ways. */
  private static TollSills looked() {
    TollSills x = Towns.rich();
    x.ahead(0, 1, 100);
    x.later(0, 0, 100);
    x.hears(0, 11);
    x.waste(3);
    x.mute(0);
    return x;
  }

  private void later() {
    t.section("Promise 17");
    t.says("What 0 to 2 (as in ofPerson()) of one behind n (0 to 100) DAYS.");
    TollSills x = Towns.door(0, 1 << 11, 3);
    int[] now = {1 << 11, -1, 0};
    int[] next = {0, 0, 1};
    int[] then = {1 << 3, -1, 2};
    int[] far = {1 << 11, -1, 100};
    for (int what = 0; what < 3; what++) {
      t.is("behind none, what " + what, x.later(0, what, 0), now[what]);
      t.is("behind one, what " + what, x.later(0, what, 1), next[what]);
      t.is("behind two, what " + what, x.later(0, what, 2), then[what]);
      t.is("behind 100, what " + what, x.later(0, what, 100), far[what]);
    }
    x.send(0, 2, 9950);
    t.is("crossed at most", x.later(0, 2, 100), 9999);
    t.is("crossed ahead of it", x.later(0, 2, 48), 9998);
    t.alike("looking ahead", looked(), Towns.rich());
    t.says("BEYOND.");
    t.range("one", Towns::rich, 0, 2, (y, v) -> y.later(v, 0, 1));
    t.range("what", Towns::rich, 0, 2, (y, v) -> y.later(0, v, 1));
    t.range("n", Towns::rich, 0, 100, (y, v) -> y.later(0, 0, v));
  }

  private void hears() {
    t.section("Promise 18");
    t.says("Behind how many DAYS (0 to 200, the fewest) one HAS a WORD.");
    TollSills x = Towns.door(0, 1 << 11, 3);
    t.is("now", x.hears(0, 11), 0);
    t.is("behind two", x.hears(0, 3), 2);
    x.go(1);
    t.is("behind one", x.hears(0, 3), 1);
    // In with 3, out with 11, which lay first then.
    t.is("the fewest, though it is had again and again", x.hears(0, 11), 3);
    t.is("behind just 200", slowToHear(1).hears(2, 3), 200);
    t.alike("looking ahead", looked(), Towns.rich());
    t.says("BEYOND.");
    t.range("one", Towns::rich, 0, 2, (y, v) -> y.hears(v, 0));
    t.range("word", Towns::rich, 0, 11, (y, v) -> y.hears(0, v));
    t.says("NONE.");
    t.refused("behind 201", () -> slowToHear(0), Due.NONE, y -> y.hears(2, 3));
    t.refused("never", Towns::rich, Due.NONE, y -> y.hears(0, 11));
  }

  /** One has word 3 behind 201 days of the first. */
  private static TollSills slowToHear(int days) {
    return behind(days, Due.quarter("church keeps 4 7 8 8 9;inn keeps 5 0 0",
        "person has 2108;person has 2629;person has 4048 in 1",
        "cross 0 5 1;cross 1 2 0;cross 2 2 1;cross 3 1 1;cross 4 0 1;cross 5 5 1"));
  }

  private static TollSills behind(int days, TollSills x) {
    if (days > 0) {
      x.go(days);
    }
    return x;
  }

  private void waste() {
    t.section("Promise 19");
    t.says("Behind how many DAYS (0 to 200, the fewest) LOST is v (0 to 99999) or more.");
    TollSills x = forgetful();
    t.is("0 now", x.waste(0), 0);
    t.is("1 behind one", x.waste(1), 1);
    t.is("2 behind three", x.waste(2), 3);
    t.is("12 behind 23", x.waste(12), 23);
    x.go(3);
    t.is("more than 1 now", x.waste(1), 0);
    t.is("2 now", x.waste(2), 0);
    t.is("3 behind two", x.waste(3), 2);
    t.is("behind just 200", slowToWaste(1).waste(13), 200);
    t.says("BEYOND.");
    t.range("v", Towns::rich, 0, 99999, (y, v) -> y.waste(v));
    t.says("NONE.");
    t.refused("13 of 12", DaysEdges::forgetful, Due.NONE, y -> y.waste(13));
    t.refused("behind 201", () -> slowToWaste(0), Due.NONE, y -> y.waste(13));
  }

  /** 13 words are lost behind 201 days of the first. */
  private static TollSills slowToWaste(int days) {
    return behind(days, Due.quarter("bare keeps 11 11 9;saloon keeps 8 0;inn keeps 11 11 9 11 0",
        "person has 1721;person has 1263;person has 3554 in 1",
        "cross 0 5 0;cross 1 3 1;cross 2 1 0;cross 3 5 0;cross 4 1 1;cross 5 2 1"));
  }

  private void mute() {
    t.section("Promise 20");
    t.says("Behind how many DAYS (0 to 200, the fewest) one HAS no WORD.");
    t.is("now", Towns.door(0, 0).mute(0), 0);
    t.is("behind one", Towns.door(0, 1).mute(0), 1);
    t.is("behind 23", forgetful().mute(0), 23);
    t.is("behind just 200", slowToMute(1).mute(2), 200);
    t.says("BEYOND.");
    t.range("one", Towns::rich, 0, 2, (y, v) -> y.mute(v));
    t.refused("nobody at all", TollSills::new, Due.BEYOND, y -> y.mute(0));
    t.says("NONE.");
    t.refused("behind 201", () -> slowToMute(0), Due.NONE, y -> y.mute(2));
    t.refused("never, where no even word is taken", () -> Towns.door(2, 2), Due.NONE, y -> y.mute(0));
  }

  /** One has no word behind 201 days of the first. */
  private static TollSills slowToMute(int days) {
    return behind(days, Due.quarter("bare;church keeps 1;sill keeps 3 8 8 7",
        "person has 832;person has 720;person has 334 in 2",
        "cross 0 5 2;cross 1 5 0;cross 2 2 2;cross 3 5 0;cross 4 1 2;cross 5 1 0"));
  }
}
