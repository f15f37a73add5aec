/** Boundary cases that the Terms name for all calls. */
final class TermsEdges {
  private static final int EVERY_WORD = 4095;

  private final Edges t;

  private TermsEdges(Edges t) {
    this.t = t;
  }

  static void run(Edges t) {
    TermsEdges edges = new TermsEdges(t);
    t.section("Terms");
    edges.findings();
    edges.orderOfFindings();
    edges.findingsChangeNothing();
    edges.numbersAndSets();
    t.section("Terms 1");
    edges.words();
    edges.theList();
    edges.lost();
    edges.sills();
    edges.people();
    edges.takes();
    edges.holds();
    edges.gives();
    t.section("Terms 2");
    edges.whoCrosses();
    edges.goingIn();
    edges.comingOut();
    edges.behindAllThat();
    edges.days();
    edges.draws();
    t.section("Terms 3");
    edges.tape();
    edges.tokens();
    edges.items();
    edges.faults();
    edges.spotsAndSheets();
  }

  private void findings() {
    t.says("FINDINGS are answers below -1000000: LOW is -1000001; LOW BEYOND, LOW - 1 FULL, LOW - 2 KIND, LOW - 3 NONE,"
        + " LOW - 4 STATE, LOW - 5 MISSING, LOW - 6 SIZE (in longs, too).");
    TollSills x = Towns.full();
    t.is("BEYOND", x.listed(6), -1000001);
    t.is("BEYOND in longs", x.odds(6, 0, 0), -1000001L);
    t.is("FULL", x.sill(0), -1000002);
    x.hold(0, 0);
    t.is("KIND", x.as(0, 1), -1000003);
    t.is("NONE", x.word(1, 0), -1000004);
    x.change(0, 3, 1);
    t.is("STATE", x.cross(0, 0), -1000005);
    t.is("MISSING", x.judge(0), -1000006);
    t.is("SIZE", x.sheet(0, 8, -1), -1000007);
    int[] counted = {2, 1, 1, 1, 1, 1, 1};
    for (int which = 0; which < 7; which++) {
      t.is("status " + which, x.status(which), counted[which]);
    }
    x.seed(-1000001);
    t.is("seed was below", x.seed(-1000000), -1000001);
    t.is("no finding", x.status(-1), 8);
  }

  private void orderOfFindings() {
    t.says("Each act tells its findings in the order in which they are asked (that of its words)");
    t.refused("sill of no kind, ninth", Towns::full, Due.BEYOND, x -> x.sill(7));
    t.refused("seventh one, too many words", Towns::full, Due.BEYOND, x -> x.person(4096));
    t.refused("sixth word, none such", Towns::full, Due.BEYOND, x -> x.lay(0, 12));
    t.refused("word of no sill, far", Towns::rich, Due.BEYOND, x -> x.word(3, 99));
    t.refused("takes of no sill, of none", Towns::rich, Due.BEYOND, x -> x.takes(3, 0));
    t.refused("nobody crosses a mended one", Towns::rich, Due.BEYOND, x -> x.cross(3, 2));
    t.refused("go 61 at the end of days", Towns::late, Due.BEYOND, x -> x.go(61));
    t.refused("stroll 41 at the end of days", Towns::late, Due.BEYOND, x -> x.stroll(41));
    t.refused("seek word 12 of one in a house", () -> Towns.inside(0, 1), Due.BEYOND, x -> x.seek(0, 12));
    t.refused("seek what isn't there of one in a house", () -> Towns.inside(0, 1), Due.STATE, x -> x.seek(0, 5));
    t.refused("fits of no sheet and nobody", Towns::rich, Due.BEYOND, x -> x.fits(4, 9));
    t.refused("fits of a missing one and nobody", Towns::rich, Due.MISSING, x -> x.fits(3, 9));
    t.refused("kinds of a missing one and no sill", Towns::rich, Due.MISSING, x -> x.kinds(3, 9));
    t.refused("feed 5 to a full tape", Towns::full, Due.BEYOND, x -> x.feed(0, 5));
    t.refused("nothing as of no kind", Towns::rich, Due.BEYOND, x -> x.as(4, 7));
    t.refused("no such sheet, below 0", Towns::rich, Due.BEYOND, x -> x.sheet(4, 8, -1));
    t.refused("other bits, below 0", Towns::rich, Due.BEYOND, x -> x.sheet(0, 9, -1));
    t.refused("write to a missing one, no such number", Towns::rich, Due.MISSING, x -> x.write(3, -1, 0));
    t.refused("copy of a missing one to none", Towns::rich, Due.BEYOND, x -> x.copy(3, 0, 4, 0, 0));
    t.refused("copy of a missing one, too many", Towns::rich, Due.MISSING, x -> x.copy(3, 0, 0, 0, 99));
    t.refused("copy of a missing one to other bits", Towns::rich, Due.MISSING, x -> x.copy(1, 0, 3, 0, 0));
    t.refused("copy to other bits, too many", Towns::rich, Due.KIND, x -> x.copy(0, 0, 1, 0, 99));
  }

  private void findingsChangeNothing() {
    t.says("one that answers a finding changes nothing but status().");
    t.refused("BEYOND", Towns::rich, Due.BEYOND, x -> x.go(61));
    t.refused("FULL", Towns::full, Due.FULL, x -> x.lay(0, 1));
    t.refused("KIND", Towns::rich, Due.KIND, x -> x.as(9, 1));
    t.refused("NONE", Towns::rich, Due.NONE, x -> x.waste(99999));
    t.refused("STATE", Towns::rich, Due.STATE, x -> x.cross(2, 2));
    t.refused("MISSING", Towns::rich, Due.MISSING, x -> x.load(3));
    t.refused("SIZE", Towns::rich, Due.SIZE, x -> x.sheet(0, 16, -1));
  }

  private void numbersAndSets() {
    t.says("Quotients are cut.");
    t.is("an inn holds half of 4", Towns.door(4, 0).of(0, 4), 2);
    t.is("the one of place 57 is 5", Towns.rich().listed(3) / 10, 5);
    t.says("Sets are told as bits");
    TollSills x = Towns.door(0, 1 | 1 << 11, 0, 11, 11);
    t.is("first and last word, kept", x.of(0, 5), 2049);
    t.is("first and last word, had", x.ofPerson(0, 0), 2049);
    TollSills full = Towns.full();
    for (int i = 0; i < 6; i++) {
      full.send(i, 0, 0);
    }
    t.is("all people", full.now(5), 63);
    full.sheet(0, 8, 0);
    t.is("all kinds", full.kinds(0, 0), 127);
    t.says("of several that would do the least number counts, where nothing else is told.");
    t.is("of eight sills", full.sillFor(5, 60), 0);
    t.is("of seven kinds", full.kindFor(7, 60), 0);
    TollSills handed = Towns.door(0, 0);
    handed.person(0);
    handed.list(1, 1, 0);
    handed.list(2, 1, 0);
    t.is("of twelve words", handed.wordFor(0, 1, 3), 0);
    handed.send(1, 0, 1 | 2);
    // What the other one leaves lies behind the first one's; so any of the ten does.
    t.is("of ten words", handed.wordFor(0, 1, 3), 2);
    TollSills cut = Towns.door(0, 0);
    Towns.sill(cut, 0, 5);
    cut.list(0, 0, 1);
    cut.list(1, 0, 1);
    t.is("of sets of one sill", cut.mend(0, 5, 2), 2);
  }

  private void words() {
    t.says("WORDS 0 to 11.");
    t.range("lay", () -> Towns.door(0, 0), 0, 11, (x, v) -> x.lay(0, v));
    t.range("hears", () -> Towns.door(0, 0), 0, 11, (x, v) -> x.hears(0, v));
    t.is("the greatest of all", Towns.door(0, 0).takes(0, EVERY_WORD), 11);
    t.is("the least of all", Towns.door(1, 0).takes(0, EVERY_WORD), 0);
  }

  private void theList() {
    t.says("THE LIST: six CROSSINGS, one for DAY modulo 6");
    t.range("listed", Towns::rich, 0, 5, (x, v) -> x.listed(v));
    for (int place = 0; place < 6; place++) {
      TollSills x = Towns.door(0, 1);
      for (int i = 0; i < 6; i++) {
        x.list(i, i == place ? 0 : 5, 0);
      }
      x.go(place == 0 ? 6 : place);
      t.is("not ahead of day " + place, x.ofPerson(0, 2), place == 0 ? 1 : 0);
      x.go(1);
      t.is("on day " + place, x.ofPerson(0, 2), place == 0 ? 2 : 1);
      x.go(5);
      t.is("not again ahead of the sixth day more", x.ofPerson(0, 2), place == 0 ? 2 : 1);
      x.go(1);
      t.is("again six days more", x.ofPerson(0, 2), place == 0 ? 3 : 2);
    }
    t.says("of one of PEOPLE (0 to 5) over a SILL (0 to 7), told as one number, 10 * PERSON and SILL together"
        + " (0 at first).");
    TollSills x = new TollSills();
    for (int i = 0; i < 6; i++) {
      t.is("at first", x.list(i, 5, 7), 0);
      t.is("the last one over the last sill", x.list(i, 0, 7), 57);
      t.is("the first one over the last sill", x.list(i, 5, 0), 7);
      t.is("the last one over the first sill", x.list(i, 0, 0), 50);
    }
    int[] crossings = {0, 7, 50, 57};
    for (int crossing : crossings) {
      TollSills y = Towns.full();
      y.list(0, crossing / 10, crossing % 10);
      y.go(1);
      t.is("who crosses by " + crossing, y.now(4), 1 << crossing / 10);
      t.is("over which sill", y.of(crossing % 10, 2), 1);
      t.is("and no other", y.now(6), 1);
    }
  }

  private void lost() {
    t.says("LOST (words; 0 to 99999; 0 at first).");
    TollSills x = Towns.door(6, 4095);
    t.is("at first", x.now(1), 0);
    t.range("waste", Towns::rich, 0, 99999, (y, v) -> y.waste(v));
    // Far more calls than are promised: none of those comes to the end.
    for (int i = 0; i < 99998; i++) {
      x.send(0, 0, 1);
      x.cross(0, 0);
      x.cross(0, 0);
    }
    t.is("nearly all", x.now(1), 99998);
    t.is("one day more", x.waste(99999), Due.NONE);
    x.send(0, 0, 7);
    t.is("goes up to the most", x.waste(99999), 1);
    t.is("the most", x.go(1), 99999);
    x.go(2);
    t.is("no more than that", x.now(1), 99999);
    x.go(2);
    t.is("nor then", x.count(3), 99999);
    t.is("one had them all taken", x.ofPerson(0, 0), 0);
  }

  private void sills() {
    t.says("SILLS 0, 1, .. (at most 8), of KINDS");
    TollSills x = new TollSills();
    for (int i = 0; i < 8; i++) {
      t.is("none such yet", x.of(i, 0), Due.BEYOND);
      t.is("sill", x.sill(i % 7), i);
      t.is("its kind", x.of(i, 0), i % 7);
    }
    t.refused("a ninth one", Towns::full, Due.FULL, y -> y.sill(0));
    t.says("0 SILL; 1 CHURCH, 2 SALOON, 5 BARE under SILL; 3 POOR under SALOON; 4 INN under POOR;"
        + " 6 MARBLE under CHURCH");
    int[] under = {1, 1 | 2, 1 | 4, 1 | 4 | 8, 1 | 4 | 8 | 16, 1 | 32, 1 | 2 | 64};
    for (int kind = 0; kind < 7; kind++) {
      TollSills y = Towns.door(kind, 0);
      y.hold(0, 0);
      for (int as = 0; as < 7; as++) {
        t.is(kind + " as " + as, y.as(0, as), (under[kind] >> as & 1) != 0 ? 0 : Due.KIND);
      }
    }
    t.says("each KEEPS WORDS in order (a row of at most 5, the same one perhaps more than once; none at first)");
    TollSills row = Towns.door(6, 0);
    t.is("none at first", row.of(0, 1), 0);
    t.is("no first one", row.word(0, 0), Due.NONE);
    for (int i = 1; i <= 5; i++) {
      t.is("the same one", row.lay(0, 9), i);
    }
    t.is("a set of one", row.of(0, 5), 1 << 9);
    t.is("the fifth", row.word(0, 4), 9);
    t.is("no sixth", row.word(0, 5), Due.NONE);
    t.is("no room for a sixth", row.lay(0, 9), Due.FULL);
    t.is("five are kept", row.of(0, 1), 5);
    t.says("WEAR (crossings; 0 to 9999; 0 at first), MENDED or not (1, 0; 0 at first).");
    t.is("no wear at first", row.of(0, 2), 0);
    t.is("not mended at first", row.of(0, 3), 0);
    t.range("wear", Towns::rich, 0, 9999, (y, v) -> y.change(1, 2, v));
    t.range("mended", Towns::rich, 0, 1, (y, v) -> y.change(1, 3, v));
  }

  private void people() {
    t.says("PEOPLE 0, 1, .. (at most 6)");
    TollSills x = new TollSills();
    for (int i = 0; i < 6; i++) {
      t.is("none such yet", x.ofPerson(i, 0), Due.BEYOND);
      t.is("person", x.person(0), i);
      t.is("there now", x.ofPerson(i, 0), 0);
    }
    t.refused("a seventh one", Towns::full, Due.FULL, y -> y.person(0));
    t.says("each HAS WORDS (a set, 0 to 4095; none at first), is IN (a SILL's house, or -1: out, at first),"
        + " CROSSED (how often; 0 to 9999; 0 at first).");
    TollSills y = new TollSills();
    Due.read(y, "person");
    t.is("has none at first", y.ofPerson(0, 0), 0);
    t.is("out at first", y.ofPerson(0, 1), -1);
    t.is("never crossed at first", y.ofPerson(0, 2), 0);
    t.range("has", Towns::rich, 0, 4095, (z, v) -> z.send(0, 0, v));
    t.range("in", Towns::rich, -1, 2, (z, v) -> z.send(0, 1, v));
    t.range("in, where no sill is", () -> {
      TollSills z = new TollSills();
      z.person(1);
      return z;
    }, -1, -1, (z, v) -> z.send(0, 1, v));
    t.range("crossed", Towns::rich, 0, 9999, (z, v) -> z.send(0, 2, v));
  }

  private void takes() {
    t.says("TAKES (which WORD of one who HAS some, if any)");
    for (int kind = 0; kind < 7; kind++) {
      int of = kind;
      t.refused("takes of none, " + kind, () -> Towns.door(of, 0), Due.NONE, x -> x.takes(0, 0));
      TollSills x = Towns.door(kind, 0);
      t.is("none is taken going in, " + kind, x.cross(0, 0), -1);
      t.is("none is lost by that", x.now(1), 0);
    }
    t.says("SILL: the greatest. CHURCH: the least. MARBLE: as a CHURCH.");
    int[] greatest = {0, 5};
    int[] least = {1, 6};
    for (int i = 0; i < 2; i++) {
      TollSills great = Towns.door(greatest[i], 0);
      TollSills small = Towns.door(least[i], 0);
      t.is("the greatest of 0 and 11", great.takes(0, 1 | 1 << 11), 11);
      t.is("the greatest of 0 alone", great.takes(0, 1), 0);
      t.is("the least of 0 and 11", small.takes(0, 1 | 1 << 11), 0);
      t.is("the least of 11 alone", small.takes(0, 1 << 11), 11);
    }
    t.says("SALOON: the greatest even one (none, if there is no even one).");
    TollSills saloon = Towns.door(2, 0);
    t.is("10 of 10 and 11", saloon.takes(0, 3 << 10), 10);
    t.is("0 of 0 and 11", saloon.takes(0, 1 | 1 << 11), 0);
    t.is("none of 11", saloon.takes(0, 1 << 11), Due.NONE);
    t.is("none of all odd ones", saloon.takes(0, 0xaaa), Due.NONE);
    t.is("10 of all even ones", saloon.takes(0, 0x555), 10);
    t.says("POOR: as a SALOON, else as a SILL (if that takes none).");
    TollSills poor = Towns.door(3, 0);
    t.is("10 of 10 and 11", poor.takes(0, 3 << 10), 10);
    t.is("0 of 0 and 11", poor.takes(0, 1 | 1 << 11), 0);
    t.is("11 of all odd ones", poor.takes(0, 0xaaa), 11);
    t.is("1 of 1 alone", poor.takes(0, 2), 1);
    t.says("INN: as a POOR, but none, if it KEEPS that already.");
    TollSills inn = Towns.door(4, 0, 9, 4);
    t.is("an even one that it keeps", inn.takes(0, 1 << 4 | 1 << 7), Due.NONE);
    t.is("a greater even one", inn.takes(0, 1 << 4 | 1 << 6), 6);
    t.is("a less even one", inn.takes(0, 1 << 2), 2);
    t.is("an odd one that it keeps", inn.takes(0, 1 << 9 | 1 << 7), Due.NONE);
    t.is("an odd one that it doesn't keep", inn.takes(0, 1 << 7), 7);
    t.is("0, which it doesn't keep", inn.takes(0, 1), 0);
    t.is("going in", Towns.door(4, 1 << 4, 4).cross(0, 0), -1);
    t.says("BARE: the greatest.");
    t.is("11 of all", Towns.door(5, 0).takes(0, EVERY_WORD), 11);
    t.is("0 of 0", Towns.door(5, 0).takes(0, 1), 0);
  }

  private void holds() {
    t.says("HOLDS (how many it may KEEP): SILL: 3. CHURCH: as a SILL, and 1. MARBLE: 0. SALOON: as a SILL, and 2."
        + " POOR: as a SALOON, less 1. INN: half (cut) of a POOR. BARE: as a SILL.");
    int[] most = {3, 4, 5, 4, 2, 3, 0};
    for (int kind = 0; kind < 7; kind++) {
      t.is("holds of " + kind, Towns.door(kind, 0).of(0, 4), most[kind]);
      for (int kept = 0; kept <= 5; kept++) {
        TollSills x = Towns.door(kind, 1 << 10, new int[kept]);
        boolean room = kept < most[kind];
        t.is("goes in, " + kind, x.cross(0, 0), 10);
        t.is("keeps of " + kind + " behind " + kept, x.of(0, 1), room ? kept + 1 : kept);
        t.is("lost of " + kind + " behind " + kept, x.now(1), room ? 0 : 1);
      }
    }
  }

  private void gives() {
    t.says("GIVES (which of those that it KEEPS): SILL: the first. CHURCH, MARBLE: as a SILL. SALOON: the last."
        + " POOR: the first, if WEAR is a multiple of 3, else as a SALOON. INN: as a POOR. BARE: none.");
    int[] wears = {0, 1, 2, 3, 9997, 9998, 9999};
    for (int kind = 0; kind < 7; kind++) {
      t.is("none of none, " + kind, Towns.door(kind, 0).of(0, 6), -1);
      t.is("the one of one, " + kind, Towns.door(kind, 0, 11).of(0, 6), kind == 5 ? -1 : 11);
      for (int wear : wears) {
        TollSills x = Towns.door(kind, 0, 8, 1, 2, 3, 7);
        x.change(0, 2, wear);
        boolean byWear = kind == 3 || kind == 4;
        boolean first = byWear ? wear % 3 == 0 : kind != 2;
        t.is("gives of " + kind + ", wear " + wear, x.of(0, 6), kind == 5 ? -1 : first ? 8 : 7);
      }
    }
  }

  private void whoCrosses() {
    t.says("A CROSSING of one over a SILL (if there are both, and the SILL isn't MENDED)");
    TollSills x = Towns.door(0, 7);
    for (int i = 0; i < 6; i++) {
      x.list(i, 1, 0);
    }
    t.is("nobody there: none lost", x.go(6), 0);
    t.is("nobody there: no wear", x.of(0, 2), 0);
    for (int i = 0; i < 6; i++) {
      x.list(i, 0, 1);
    }
    x.go(6);
    t.is("no such sill: never crossed", x.ofPerson(0, 2), 0);
    t.is("no such sill: out", x.ofPerson(0, 1), -1);
    x.list(0, 0, 0);
    x.change(0, 3, 1);
    x.go(6);
    t.is("mended: never crossed", x.ofPerson(0, 2), 0);
    t.is("mended: has as before", x.ofPerson(0, 0), 7);
    t.is("days went by", x.now(0), 18);
    for (int i = 0; i < 6; i++) {
      x.list(i, 5, 7);
    }
    x.list(0, 0, 0);
    x.list(1, 1, 0);
    x.list(2, 1, 1);
    x.person(8);
    x.sill(0);
    x.go(3);
    t.is("there now: crossed", x.ofPerson(1, 2), 1);
    t.is("there now: in", x.ofPerson(1, 1), 1);
    x.change(0, 3, 0);
    x.go(4);
    t.is("mended no more: crossed", x.ofPerson(0, 2), 1);
  }

  private void goingIn() {
    t.says("one who is out goes in: IN is that SILL");
    TollSills in = Towns.rich();
    in.send(0, 1, -1);
    in.cross(0, 1);
    t.is("in", in.ofPerson(0, 1), 1);
    t.says("if it TAKES a WORD, one hasn't that any more, and it is KEPT behind all others,"
        + " if there are fewer than it HOLDS");
    TollSills x = Towns.door(0, 1 << 4 | 1 << 3, 9, 4);
    t.is("takes 4", x.cross(0, 0), 4);
    t.is("has 3", x.ofPerson(0, 0), 1 << 3);
    t.is("behind 9 and 4", x.word(0, 2), 4);
    t.is("the first stays", x.word(0, 0), 9);
    t.is("none lost", x.now(1), 0);
    TollSills none = Towns.door(2, 0xaaa, 6);
    t.is("takes none", none.cross(0, 0), -1);
    t.is("has all of them", none.ofPerson(0, 0), 0xaaa);
    t.is("keeps as before", none.of(0, 1), 1);
    t.is("in all the same", none.ofPerson(0, 1), 0);
    t.says("else it is LOST (LOST is 1 more, 99999 at most).");
    TollSills y = Towns.door(0, 1 << 4 | 1 << 3, 9, 9, 9);
    t.is("takes 4", y.cross(0, 0), 4);
    t.is("has it no more", y.ofPerson(0, 0), 1 << 3);
    t.is("keeps three", y.of(0, 5), 1 << 9);
    t.is("one lost", y.now(1), 1);
  }

  private void comingOut() {
    t.says("One who is IN that SILL's house comes out: IN is -1");
    TollSills x = Towns.inside(5, 1, 2);
    t.is("bare gives none", x.cross(0, 0), -1);
    t.is("out", x.ofPerson(0, 1), -1);
    t.says("if it KEEPS any and GIVES one, that isn't KEPT any more, and one HAS it (if one HAS it already, it is LOST).");
    t.is("bare keeps it", x.of(0, 1), 1);
    TollSills empty = Towns.inside(0, 6);
    t.is("keeps none", empty.cross(0, 0), -1);
    t.is("has as before", empty.ofPerson(0, 0), 6);
    TollSills last = Towns.inside(0, 6, 0);
    t.is("gives its only one", last.cross(0, 0), 0);
    t.is("keeps none then", last.of(0, 1), 0);
    t.is("has it", last.ofPerson(0, 0), 7);
    t.is("none lost", last.now(1), 0);
    TollSills twice = Towns.inside(0, 1 << 11, 11, 11);
    t.is("gives what one has", twice.cross(0, 0), 11);
    t.is("lost", twice.now(1), 1);
    t.is("one of the two is kept", twice.word(0, 0), 11);
    t.is("no other", twice.of(0, 1), 1);
    t.is("has it still", twice.ofPerson(0, 0), 1 << 11);
    TollSills row = Towns.inside(2, 0, 1, 2, 3, 4, 5);
    t.is("gives the fifth", row.cross(0, 0), 5);
    t.is("four are left", row.word(0, 3), 4);
    t.is("and no fifth", row.word(0, 4), Due.NONE);
    t.says("One who is IN another house doesn't cross.");
    TollSills other = Towns.inside(0, 6, 1);
    other.sill(0);
    other.list(0, 0, 1);
    other.go(1);
    t.is("in the same house", other.ofPerson(0, 1), 0);
    t.is("never crossed", other.ofPerson(0, 2), 0);
    t.is("no wear", other.now(6), 0);
    t.refused("nor besides", () -> {
      TollSills y = Towns.inside(0, 6, 1);
      y.sill(0);
      return y;
    }, Due.STATE, y -> y.cross(0, 1));
  }

  private void behindAllThat() {
    t.says("If one crossed, WEAR of the SILL and CROSSED of the one are 1 more (9999 at most, both; behind all that).");
    for (int before : new int[] {0, 9997, 9998, 9999}) {
      TollSills x = Towns.door(0, 1);
      x.change(0, 2, before);
      x.send(0, 2, before);
      x.cross(0, 0);
      t.is("wear behind " + before, x.of(0, 2), Math.min(before + 1, 9999));
      t.is("crossed behind " + before, x.ofPerson(0, 2), Math.min(before + 1, 9999));
    }
    TollSills y = Towns.door(0, 1);
    y.change(0, 2, 9999);
    y.cross(0, 0);
    t.is("crossed goes on without wear", y.ofPerson(0, 2), 1);
    TollSills poor = Towns.inside(3, 0, 1, 2);
    poor.change(0, 2, 3);
    t.is("gives by the wear ahead of it", poor.cross(0, 0), 1);
    poor.send(0, 1, 0);
    poor.lay(0, 5);
    t.is("and by 4 then", poor.cross(0, 0), 5);
  }

  private void days() {
    t.says("A DAY goes by: the CROSSING of THE LIST for DAY modulo 6. DAY is one more (99999 at most).");
    TollSills x = Towns.door(0, 1);
    t.is("the first day", x.now(0), 0);
    x.go(1);
    t.is("one more", x.now(0), 1);
    t.is("crossed", x.ofPerson(0, 2), 1);
    TollSills late = Towns.late();
    late.go(38);
    t.is("nearly the last day", late.now(0), 99998);
    late.go(1);
    t.is("the last day", late.now(0), 99999);
    t.is("none behind it", late.go(1), Due.STATE);
    t.is("nor then", late.now(0), 99999);
  }

  private void draws() {
    t.says("DRAWS: z is told (1 at first); each makes it z * 1103515245 + 12345 (an int), and gives z >>> 8.");
    TollSills x = new TollSills();
    t.is("at first", x.count(6), 1);
    x.stroll(1);
    // 1 * 1103515245 + 12345 is 1103527590, which gives 4310654: one 2. The next one wraps around.
    t.is("two draws", x.count(6), 1103527590 * 1103515245 + 12345);
    t.is("an int", x.count(6), (int) (1103527590L * 1103515245L + 12345L));
    t.is("the first gives 4310654", x.listed(0) / 10, 2);
    int[] seeds = {0, -1, Integer.MAX_VALUE, Integer.MIN_VALUE, 0x7fffff00};
    for (int seed : seeds) {
      TollSills y = new TollSills();
      y.seed(seed);
      y.stroll(1);
      int first = (int) (seed * 1103515245L + 12345L);
      int second = (int) (first * 1103515245L + 12345L);
      long one = ((first & 0xffffffffL) >> 8) % 6;
      long sill = ((second & 0xffffffffL) >> 8) % 8;
      t.is("listed of " + seed, y.listed(0), 10 * one + sill);
      t.is("z of " + seed, y.count(6), second);
    }
  }

  private void tape() {
    t.says("A TEXT is read from THE TAPE (bytes, at most 120).");
    String text = "cross 0 5 7;cross 0 5 6;cross 0 5 5;cross 0 5 4;cross 0 5 3;cross 0 5 2;cross 0 5 1;cross 0 5 0;"
        + "sill keeps 0 11 mended";
    TollSills x = new TollSills();
    Due.feedByFours(x, text + "  ");
    t.is("120 bytes", x.count(5), 120);
    t.is("one more", x.feed('x', 1), Due.FULL);
    t.is("read to the last one", x.text(), 9);
    t.is("the last item", x.of(0, 3), 1);
    Due.feedByFours(x, text + " ;");
    t.is("a fault at the last one", x.text(), -1 - 120);
  }

  private void text(String words, int answer) {
    TollSills x = new TollSills();
    Due.feedByFours(x, words);
    t.is("<" + words + ">", x.text(), answer);
  }

  private void tokens() {
    t.says("TOKENS, each as long as can be: WORDS (letters a to z), NUMBERS (digits, 9999 at most), SIGN ; ;"
        + " blanks may stand between.");
    text("sillmended", -1);
    text("sill mended", 1);
    text("sillkeeps 1", -1);
    text("sill keeps1mended", 1);
    text("sill keeps 1 1", 1);
    text("sill keeps 111", -12);
    text("sill;sill", 2);
    text("   sill   ;   sill   ", 2);
    text("sillz", -1);
    text("asill", -1);
    text("sill z", -6);
    text("Sill", -1);
    text("sill`", -5);
    text("sill{", -5);
    text("sill@", -5);
    text("sill/", -5);
    text("sill:", -5);
    text("sill<", -5);
    text("sill\tmended", -5);
    text("sill\nmended", -5);
    text("sill\u0000", -5);
    text("sill\u00ff", -5);
    text("person has 9999", -12);
    text("person has 10000", -12);
    text("person has 4294967296", -12);
    text("person has 18446744073709551616", -12);
    text("person has 004095", 1);
  }

  private void items() {
    t.says("TEXT: ITEM { ; ITEM }.");
    text("sill", 1);
    text("", -1);
    text(" ", -2);
    text(";", -1);
    text("sill;", -6);
    text(";sill", -1);
    text("sill;;sill", -6);
    text("sill sill", -6);
    t.says("ITEM: sill, church, saloon, poor, inn, bare or marble, perhaps keeps and NUMBERS (one to five of them,"
        + " 0 to 11 each, the first kept first), perhaps mended: a new SILL");
    text("sill keeps", -11);
    text("sill keeps ;", -12);
    text("sill keeps mended", -12);
    text("sill keeps 0", 1);
    text("sill keeps 11", 1);
    text("sill keeps 12", -12);
    text("sill keeps 1 2 3 4 5", 1);
    text("sill keeps 1 2 3 4 5 6", -22);
    text("sill keeps 1 2 3 4 12", -20);
    text("sill mended keeps 1", -13);
    text("sill mended mended", -13);
    TollSills x = new TollSills();
    Due.feedByFours(x, "sill;church;saloon;poor;inn;bare;marble");
    t.is("a kind each", x.text(), 7);
    Due.feedByFours(x, "inn keeps 11 0 11 0 5 mended");
    x.text();
    for (int kind = 0; kind < 7; kind++) {
      t.is("kind " + kind, x.of(kind, 0), kind);
      t.is("keeps none", x.of(kind, 1), 0);
      t.is("not mended", x.of(kind, 3), 0);
    }
    int[] row = {11, 0, 11, 0, 5};
    for (int i = 0; i < 5; i++) {
      t.is("kept " + i, x.word(7, i), row[i]);
    }
    t.is("mended", x.of(7, 3), 1);
    t.says("person, perhaps has and a NUMBER (0 to 4095), perhaps in and a NUMBER (a SILL that is there already):"
        + " a new one");
    text("person", 1);
    text("person has 0", 1);
    text("person has 4095", 1);
    text("person has 4096", -12);
    text("person has", -11);
    text("person has 1 1", -14);
    text("person in", -10);
    text("person in 0", -11);
    text("sill;person in 0", 2);
    text("sill;person in 1", -16);
    text("sill;sill;person in 1", 3);
    text("person in 0;sill", -11);
    text("sill;person has 1 in 0", 2);
    text("sill;person in 0 has 1", -18);
    t.says("cross, three NUMBERS (a place of THE LIST, 0 to 5, 0 to 5, 0 to 7).");
    text("cross 0 0 0", 1);
    text("cross 5 5 7", 1);
    text("cross 6 0 0", -7);
    text("cross 0 6 0", -9);
    text("cross 0 0 8", -11);
    text("cross", -6);
    text("cross 0", -8);
    text("cross 0 0", -10);
    text("cross 0 0 0 0", -13);
  }

  private void faults() {
    t.says("FAULT: the place (from 0) of the first byte of the first TOKEN that can't stand there (a NUMBER that isn't"
        + " as told, another WORD, a byte that begins no TOKEN, the WORD of a 9th SILL, of a 7th person: its own;"
        + " a sixth NUMBER behind keeps), or how many bytes there are if it ends too early.");
    text("person has  5000", -13);
    text("sill  door", -7);
    text("door sill door", -1);
    text("sill !!", -6);
    text("sill keeps 1 2 3 4 5  6 7", -23);
    text("sill;  ", -8);
    text("cross 1 ", -9);
    text("inn;inn;inn;inn;inn;inn;inn;inn", 8);
    text("inn;inn;inn;inn;inn;inn;inn;inn; inn keeps 1", -34);
    text("person;person;person;person;person;person", 6);
    text("person;person;person;person;person;person;person has 9", -43);
    TollSills x = new TollSills();
    for (int i = 0; i < 7; i++) {
      x.sill(0);
    }
    Due.feedByFours(x, "sill;sill");
    t.is("two more behind seven", x.text(), -6);
    t.is("none of the two", x.count(1), 7);
    Due.feedByFours(x, "sill");
    t.is("one more behind seven", x.text(), 1);
  }

  private void spotsAndSheets() {
    t.says("SPOTS 0 to 9 hold a SILL or nothing (at first).");
    t.range("spots", Towns::rich, 0, 9, (x, v) -> x.hold(v, 0));
    t.range("spots as", Towns::rich, 0, 9, (x, v) -> x.as(v, 0));
    for (int spot = 0; spot < 10; spot++) {
      t.is("nothing at first", new TollSills().as(spot, 0), Due.MISSING);
    }
    t.says("SHEETS 0 to 3: rows of at most 40 numbers of 8, 16 or 32 bits, or MISSING (at first).");
    t.range("sheets", Towns::rich, 0, 3, (x, v) -> x.sheet(v, 8, 1));
    t.range("sheets read", Towns::rich, 0, 3, (x, v) -> x.judge(v));
    for (int s = 0; s < 4; s++) {
      t.is("missing at first", new TollSills().judge(s), Due.MISSING);
    }
    for (int bits = 8; bits <= 32; bits *= 2) {
      int of = bits;
      TollSills x = new TollSills();
      t.is("40 numbers of " + bits, x.sheet(3, bits, 40), 40);
      t.is("the last one", x.write(3, 39, 1), 1);
      t.is("none behind it", x.write(3, 40, 1), Due.BEYOND);
      t.refused("41 numbers of " + bits, Towns::full, Due.BEYOND, y -> y.sheet(3, of, 41));
    }
  }
}
