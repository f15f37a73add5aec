/** Promises 14 to 20: days, and what will be. */
public final class DaysTest {
  private static final Due due = new Due();

  public static void main(String[] args) {
    days();
    nows();
    nobodyCrosses();
    theLastDay();
    looks();
    waits();
    due.end();
  }

  /** One of words 1, 2, 3 and another of none at one sill: a word is handed over every fourth day. */
  private static TollSills postman() {
    TollSills x = Due.quarter("sill;person has 14;person");
    x.list(0, 0, 0);
    x.list(1, 1, 0);
    x.list(2, 1, 0);
    x.list(3, 0, 0);
    x.list(4, 5, 7);
    x.list(5, 0, 7);
    return x;
  }

  private static void days() {
    TollSills x = postman();
    due.is("go 0", x.go(0), Due.BEYOND);
    due.is("go 61", x.go(61), Due.BEYOND);
    due.is("go -1", x.go(-1), Due.BEYOND);
    due.is("day", x.now(0), 0);
    due.is("first day", x.go(1), 0);
    due.is("took the greatest", x.word(0, 0), 3);
    due.is("left", x.ofPerson(0, 0), 6);
    due.is("in", x.ofPerson(0, 1), 0);
    x.go(2);
    due.is("the postman's idea", x.ofPerson(1, 0), 8);
    due.is("is out", x.ofPerson(1, 1), -1);
    due.is("crossed twice", x.ofPerson(1, 2), 2);
    x.go(1);
    due.is("out with nothing", x.ofPerson(0, 0), 6);
    due.is("wear", x.of(0, 2), 4);
    x.go(2);
    due.is("nobody crossed", x.of(0, 2), 4);
    due.is("day 6", x.now(0), 6);
    due.is("go 60", x.go(60), 0);
    due.is("day 66", x.count(0), 66);

    TollSills y = Due.quarter("marble;person has 4095");
    due.is("one lost", y.go(1), 1);
    due.is("out, nothing given", y.go(1), 1);
    due.is("all places tell 0", y.go(22), 12);
    due.is("none more", y.go(60), 12);
    due.is("lost", y.now(1), 12);
    due.is("lost, counted", y.count(3), 12);
  }

  private static void nows() {
    TollSills x = Due.quarter("sill keeps 3 3 7;church keeps 11;person has 5 in 1;person;person has 4");
    x.change(0, 2, 9000);
    x.change(1, 2, 9999);
    due.is("words had", x.now(2), 5);
    due.is("words kept", x.now(3), 1 << 3 | 1 << 7 | 1 << 11);
    due.is("inside", x.now(4), 1);
    due.is("mute ones", x.now(5), 2);
    due.is("wear", x.now(6), 18999);
    due.is("kept in all", x.now(7), 4);
    due.is("now -1", x.now(-1), Due.BEYOND);
    x.send(0, 0, 0);
    due.is("more mute ones", x.now(5), 3);
    due.is("now 8", x.now(8), Due.BEYOND);
  }

  private static void nobodyCrosses() {
    TollSills x = Due.quarter("sill mended;sill;person has 3 in 1");
    due.is("mended", x.go(3), 0);
    due.is("no wear", x.now(6), 0);
    x.change(0, 3, 0);
    x.go(3);
    due.is("in another house", x.now(6), 0);
    due.is("still in", x.ofPerson(0, 1), 1);
    due.is("day", x.now(0), 6);
  }

  /** Farther than the calls that are promised, since none of these comes to the last day. */
  private static void theLastDay() {
    TollSills x = Due.quarter("marble;person has 4095");
    for (int i = 0; i < 1666; i++) {
      x.go(60);
    }
    due.is("day", x.now(0), 99960);
    due.is("go 40", x.go(40), Due.STATE);
    due.is("go 61", x.go(61), Due.BEYOND);
    due.is("go 38", x.go(38), 12);
    due.is("stroll 2", x.stroll(2), Due.STATE);
    due.is("stroll 21", x.stroll(21), Due.BEYOND);
    due.is("z stays", x.count(6), 1);
    due.is("stroll 1", x.stroll(1), 12);
    due.is("the last day", x.now(0), 99999);
    due.is("go 1", x.go(1), Due.STATE);
    due.is("stroll 1 more", x.stroll(1), Due.STATE);
    // Looking ahead, the day stays the last one: place 3 of the list, again and again.
    x.list(3, 0, 0);
    int crossed = x.ofPerson(0, 2);
    due.is("looks ahead", x.later(0, 2, 10), Math.min(9999, crossed + 10));
    x.send(0, 2, 0);
    due.is("looks ahead from 0", x.later(0, 2, 10), 10);
  }

  private static void looks() {
    TollSills x = postman();
    due.is("ahead 0", x.ahead(0, 1, 0), 0);
    due.is("ahead 1", x.ahead(0, 1, 1), 1);
    due.is("ahead set", x.ahead(0, 5, 1), 8);
    due.is("ahead gives", x.ahead(0, 6, 2), 3);
    due.is("ahead gives none", x.ahead(0, 6, 3), -1);
    due.is("ahead wear", x.ahead(0, 2, 6), 4);
    due.is("ahead wear 100", x.ahead(0, 2, 100), 68);
    due.is("later has", x.later(1, 0, 3), 8);
    due.is("later had", x.later(1, 0, 2), 0);
    due.is("later in", x.later(1, 1, 2), 0);
    due.is("later out", x.later(1, 1, 3), -1);
    due.is("later crossed", x.later(0, 2, 100), 34);
    due.is("later now", x.later(0, 0, 0), 14);
    for (int what : new int[] {-1, 0, 3, 4, 7}) {
      due.is("ahead what " + what, x.ahead(0, what, 0), Due.BEYOND);
    }
    due.is("ahead 101", x.ahead(0, 1, 101), Due.BEYOND);
    due.is("ahead -1", x.ahead(0, 1, -1), Due.BEYOND);
    due.is("ahead of none", x.ahead(1, 1, 0), Due.BEYOND);
    due.is("later what -1", x.later(0, -1, 0), Due.BEYOND);
    due.is("later what 3", x.later(0, 3, 0), Due.BEYOND);
    due.is("later 101", x.later(0, 0, 101), Due.BEYOND);
    due.is("later -1", x.later(0, 0, -1), Due.BEYOND);
    due.is("later of nobody", x.later(2, 0, 0), Due.BEYOND);
    due.is("nothing changed", x.now(0) + x.now(6), 0);
    due.is("nothing changed for one", x.ofPerson(0, 0), 14);
    x.go(2);
    due.is("ahead from now on", x.later(1, 0, 1), 8);
  }

  private static void waits() {
    TollSills x = postman();
    due.is("hears now", x.hears(0, 1), 0);
    due.is("hears 3", x.hears(1, 3), 3);
    due.is("hears 2", x.hears(0, 2), 0);
    due.is("never hears 11", x.hears(1, 11), Due.NONE);
    due.is("hears 12", x.hears(1, 12), Due.BEYOND);
    due.is("hears -1", x.hears(1, -1), Due.BEYOND);
    due.is("nobody hears", x.hears(2, 1), Due.BEYOND);
    due.is("mute now", x.mute(1), 0);
    due.is("never mute, words come back", x.mute(0), Due.NONE);
    due.is("mute behind", Due.quarter("bare;person has 7").mute(0), 5);
    due.is("never mute", Due.quarter("person has 1").mute(0), Due.NONE);
    due.is("mute of nobody", x.mute(2), Due.BEYOND);
    due.is("waste 0", x.waste(0), 0);
    due.is("waste 1", x.waste(1), Due.NONE);
    due.is("waste -1", x.waste(-1), Due.BEYOND);
    due.is("waste 100000", x.waste(100000), Due.BEYOND);
    TollSills y = Due.quarter("marble;person has 4095");
    due.is("waste 5", y.waste(5), 9);
    due.is("waste 12", y.waste(12), 23);
    due.is("waste 13", y.waste(13), Due.NONE);
    due.is("waste most", y.waste(99999), Due.NONE);
    y.go(9);
    due.is("wasted already", y.waste(5), 0);
    atTheFarthestDay();
  }

  /** Behind just 200 days, and 201. */
  private static void atTheFarthestDay() {
    TollSills w = Due.quarter("bare keeps 11 11 9;saloon keeps 8 0;inn keeps 11 11 9 11 0",
        "person has 1721;person has 1263;person has 3554 in 1",
        "cross 0 5 0;cross 1 3 1;cross 2 1 0;cross 3 5 0;cross 4 1 1;cross 5 2 1");
    due.is("waste behind 201", w.waste(13), Due.NONE);
    w.go(1);
    due.is("waste behind 200", w.waste(13), 200);
    TollSills m = Due.quarter("bare;church keeps 1;sill keeps 3 8 8 7",
        "person has 832;person has 720;person has 334 in 2",
        "cross 0 5 2;cross 1 5 0;cross 2 2 2;cross 3 5 0;cross 4 1 2;cross 5 1 0");
    due.is("mute behind 201", m.mute(2), Due.NONE);
    m.go(1);
    due.is("mute behind 200", m.mute(2), 200);
    TollSills h = Due.quarter("church keeps 4 7 8 8 9;inn keeps 5 0 0",
        "person has 2108;person has 2629;person has 4048 in 1",
        "cross 0 5 1;cross 1 2 0;cross 2 2 1;cross 3 1 1;cross 4 0 1;cross 5 5 1");
    due.is("hears behind 201", h.hears(2, 3), Due.NONE);
    h.go(1);
    due.is("hears behind 200", h.hears(2, 3), 200);
  }
}
