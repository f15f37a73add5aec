/** The document's first words: what its pictures come to by the terms, and an object's 512 calls. */
final class BeginEdges {
  private static final int CALLS = 512;

  private final Edges t;

  private BeginEdges(Edges t) {
    this.t = t;
  }

  static void run(Edges t) {
    BeginEdges edges = new BeginEdges(t);
    t.section("What it is");
    edges.passedOn();
    edges.wise();
    edges.unpaid();
    edges.kinds();
    edges.whatStays();
    edges.quarter();
    edges.questions();
    edges.lastCall();
  }

  private void passedOn() {
    t.says("Thresholds are toll collectors: in this old quarter each doorsill takes something of whoever crosses, a step,"
        + " a thought, the day's first word, and passes it on to whoever next comes out,"
        + " so one leaves one's house with the postman's idea,");
    TollSills x = Towns.inside(0, 0);
    x.person(128);
    t.is("the postman goes in", x.cross(1, 0), 7);
    t.is("a step", x.of(0, 2), 1);
    t.is("a thought", x.ofPerson(1, 0), 0);
    t.is("one comes out", x.cross(0, 0), 7);
    t.is("the postman's idea", x.ofPerson(0, 0), 128);
    t.is("is left no more", x.of(0, 1), 0);
    t.says("lovers say the other's grocery list,");
    TollSills pair = Towns.door(2, 1 << 4);
    pair.person(1 << 6);
    pair.cross(0, 0);
    pair.cross(1, 0);
    t.is("the first comes out", pair.cross(0, 0), 6);
    t.is("the second comes out", pair.cross(1, 0), 4);
  }

  private void wise() {
    t.says("a wise sill's walked to from across the town,");
    TollSills x = Towns.door(0, 0);
    x.sill(5);
    Towns.sill(x, 0, 11);
    t.is("the wise one's number", x.seek(0, 11), 2);
    t.is("nobody has gone there yet", x.of(2, 2), 0);
  }

  private void unpaid() {
    t.says("whoever steps over it long legged is a thief,");
    TollSills thief = Towns.door(0, 0, 3);
    t.is("pays nothing", thief.cross(0, 0), -1);
    t.is("leaves with a word", thief.cross(0, 0), 3);
    t.says("babies are handed in at the window,");
    TollSills baby = Towns.door(0, 8);
    t.is("was out", baby.send(0, 1, 0), -1);
    t.is("is in with its word", baby.ofPerson(0, 0), 8);
    t.is("didn't cross", baby.ofPerson(0, 2) + baby.of(0, 2), 0);
    t.says("brides are carried for that,");
    TollSills bride = Towns.door(1, 4095);
    bride.send(0, 1, 0);
    t.is("keeps all her words", bride.ofPerson(0, 0), 4095);
    t.is("nothing was taken", bride.of(0, 1), 0);
    t.says("doctors are full of complaints,");
    t.is("has all words", Towns.door(0, 4095).now(2), 4095);
  }

  private void kinds() {
    t.says("a church's gives back sighs,");
    TollSills church = Towns.door(1, 1 | 1 << 9);
    t.is("takes the least", church.cross(0, 0), 0);
    t.is("gives it back", church.cross(0, 0), 0);
    t.says("a saloon door has swung so often that it's all one sentence,");
    TollSills saloon = Towns.door(2, 0x555);
    saloon.change(0, 2, 9999);
    for (int i = 0; i < 6; i++) {
      saloon.send(0, 1, -1);
      saloon.cross(0, 0);
    }
    t.is("WEAR", saloon.of(0, 2), 9999);
    t.is("five words in a row", saloon.of(0, 1), 5);
    t.is("the sixth is lost", saloon.now(1), 1);
    t.says("the tax office sill is bare,");
    TollSills tax = Towns.door(5, 1 << 5);
    t.is("takes", tax.cross(0, 0), 5);
    t.is("gives nothing", tax.cross(0, 0), -1);
    t.is("and keeps it", tax.of(0, 5), 1 << 5);
    t.says("marble ones forget,");
    TollSills marble = Towns.door(6, 1 << 5);
    t.is("takes", marble.cross(0, 0), 5);
    t.is("keeps nothing", marble.of(0, 1), 0);
    t.is("it is lost", marble.now(1), 1);
    t.says("poor sills are generous,");
    TollSills poor = Towns.inside(3, 0, 2, 4, 6);
    t.is("the first with no WEAR", poor.cross(0, 0), 2);
    poor.send(0, 1, 0);
    t.is("the last with WEAR 1", poor.cross(0, 0), 6);
  }

  private void whatStays() {
    t.says("an exile's threshold still holds what he meant to say,");
    TollSills exile = new TollSills();
    Towns.sill(exile, 0, 10);
    exile.go(60);
    t.is("with nobody there", exile.word(0, 0), 10);
    t.says("repair means nine days as nobody,");
    TollSills nobody = Towns.door(0, 128);
    nobody.change(0, 3, 1);
    nobody.go(9);
    t.is("nobody crossed", nobody.ofPerson(0, 2), 0);
    t.is("the word is had still", nobody.ofPerson(0, 0), 128);
    t.is("nine days went by", nobody.now(0), 9);
    t.says("words stay in order;");
    TollSills row = Towns.inside(0, 0, 9, 1, 9, 5);
    row.cross(0, 0);
    t.is("the second is the first", row.word(0, 0), 1);
    t.is("the third the second", row.word(0, 1), 9);
    t.is("the last the third", row.word(0, 2), 5);
  }

  private void quarter() {
    t.says("sills of kinds that take, keep, give;");
    TollSills x = Towns.door(0, 2);
    t.is("takes", x.takes(0, 2), 1);
    x.cross(0, 0);
    t.is("keeps", x.of(0, 5), 2);
    t.is("gives", x.of(0, 6), 1);
    t.says("people with words who cross by a list;");
    TollSills y = Towns.door(0, 2);
    y.list(0, 0, 0);
    t.is("one crosses", y.later(0, 2, 1), 1);
    y.list(0, 1, 0);
    t.is("another one is listed", y.later(0, 2, 1), 0);
    t.says("days;");
    y.go(60);
    t.is("sixty", y.now(0), 60);
    t.says("who has which word when;");
    TollSills z = Towns.inside(0, 0, 3);
    z.list(0, 5, 7);
    z.list(1, 0, 0);
    t.is("word 3 behind two days", z.hears(0, 3), 2);
    t.is("none now", z.mute(0), 0);
    t.says("what a sill keeps;");
    t.is("behind a day", z.ahead(0, 5, 1), 8);
    t.is("behind two", z.ahead(0, 5, 2), 0);
  }

  private void questions() {
    t.says("whom to send where, with which word;");
    TollSills x = Towns.door(6, 2);
    x.person(0);
    t.is("not over marble", x.sillFor(0, 1), 1);
    t.is("as a plain sill", x.kindFor(0, 1), 0);
    TollSills handed = Towns.door(0, 0);
    handed.person(0);
    handed.send(1, 1, 0);
    handed.list(1, 1, 0);
    t.is("with word 0", handed.wordFor(0, 1, 2), 0);
    t.says("as what;");
    x.hold(9, 0);
    t.is("marble as a church", x.as(9, 1), 0);
    t.is("marble as a saloon", x.as(9, 2), Due.KIND);
    t.says("which to mend, the fewest;");
    TollSills z = Towns.inside(0, 0, 3);
    t.is("the only one", z.mend(0, 3, 1), 1);
    t.is("none", z.mend(0, 4, 1), 0);
    t.says("crossings and kinds by told words;");
    TollSills told = Towns.door(0, 2);
    Due.sheet(told, 0, 8, 2, 0);
    t.is("one crossing", told.fits(0, 0), 1);
    Due.sheet(told, 0, 8, 0, 1);
    t.is("kinds that keep word 1", told.kinds(0, 0), 0b0111011);
    t.says("days by draws;");
    t.is("a day", told.stroll(1), 0);
    t.is("its crossing is listed: 1 makes 1103527590, which makes 2524885223", told.listed(0),
        10 * ((1103527590 >>> 8) % 6) + ((int) 2524885223L >>> 8) % 8);
    t.says("quarters from texts.");
    t.is("three items", Due.read(told, "inn keeps 3;person has 5 in 1;cross 5 1 1"), 3);
  }

  private void lastCall() {
    t.says("An object is used for at most 512 calls after it has been made; what later calls answer is free.");
    TollSills days = new TollSills();
    for (int i = 1; i < CALLS; i++) {
      days.go(60);
    }
    t.is("the 512th call", days.now(0), 60 * (CALLS - 1));
    TollSills refused = new TollSills();
    for (int i = 1; i < CALLS; i++) {
      refused.undo();
    }
    t.is("511 findings", refused.status(3), CALLS - 1);
  }
}
