/** Promises 31 to 33: the tape and its texts. */
public final class TextsTest {
  private static final Due due = new Due();

  public static void main(String[] args) {
    feeds();
    wipes();
    rightTexts();
    faults();
    limits();
    due.end();
  }

  private static void feeds() {
    TollSills x = new TollSills();
    due.is("feed 0", x.feed(65, 0), Due.BEYOND);
    due.is("feed 5", x.feed(65, 5), Due.BEYOND);
    due.is("feed -1", x.feed(65, -1), Due.BEYOND);
    due.is("feed 4", x.feed('b' << 24 | 'a' << 16 | 'r' << 8 | 'e', 4), 4);
    due.is("text of them", x.text(), 1);
    due.is("kind of it", x.of(0, 0), 5);
    due.is("feed 3 of 4", x.feed('x' << 24 | 'i' << 16 | 'n' << 8 | 'n', 3), 3);
    due.is("the lowest, the highest first", x.text(), 1);
    due.is("an inn", x.of(1, 0), 4);
    for (int i = 1; i <= 59; i++) {
      due.is("feed 2", x.feed(0x2020, 2), 2 * i);
    }
    due.is("one byte too many", x.feed(0x20202020, 3), Due.FULL);
    due.is("still 118", x.count(5), 118);
    due.is("119", x.feed(32, 1), 119);
    due.is("120", x.feed(32, 1), 120);
    due.is("no more", x.feed(32, 1), Due.FULL);
    due.is("wrong n before full", x.feed(32, 5), Due.BEYOND);
    due.is("only blanks", x.text(), -121);
    due.is("empty then", x.count(5), 0);
    x.feed(-1, 4);
    due.is("bytes 255", x.text(), -1);
  }

  private static void wipes() {
    TollSills x = new TollSills();
    Due.feed(x, "sill");
    due.is("wipe", x.wipe(), 4);
    due.is("wiped", x.wipe(), 0);
    due.is("nothing to read", x.text(), -1);
    due.is("nothing made", x.count(1), 0);
    due.is("no finding", x.status(-1), 0);
  }

  private static void rightTexts() {
    TollSills x = new TollSills();
    due.is("all kinds", Due.read(x, "sill;church;saloon;poor;inn;bare;marble"), 7);
    for (int kind = 0; kind < 7; kind++) {
      due.is("kind", x.of(kind, 0), kind);
    }
    due.is("blanks and none", Due.read(x, "  inn  keeps3 011 3mended ;person has4095in7;cross 5 5 7  "), 3);
    due.is("keeps", x.of(7, 1), 3);
    due.is("first", x.word(7, 0), 3);
    due.is("second", x.word(7, 1), 11);
    due.is("third", x.word(7, 2), 3);
    due.is("mended", x.of(7, 3), 1);
    due.is("has", x.ofPerson(0, 0), 4095);
    due.is("in", x.ofPerson(0, 1), 7);
    due.is("listed", x.listed(5), 57);
    TollSills y = new TollSills();
    due.is("five kept", Due.read(y, "marble keeps 0 1 2 3 11;person in 0;person has 0;person;cross 0 0 0;bare mended"), 6);
    due.is("kept", y.of(0, 1), 5);
    due.is("last", y.word(0, 4), 11);
    due.is("wear", y.of(0, 2), 0);
    due.is("in", y.ofPerson(0, 1), 0);
    due.is("crossed", y.ofPerson(0, 2), 0);
    due.is("has none", y.ofPerson(1, 0), 0);
    due.is("out", y.ofPerson(2, 1), -1);
    due.is("bare", y.of(1, 0), 5);
    due.is("bare mended", y.of(1, 3), 1);
    due.is("not mended", y.of(0, 3), 0);
    due.is("no day", y.now(0), 0);
    due.is("person in one of this text", Due.read(y, "sill;person in 2"), 2);
    due.is("zeros in front", Due.read(y, "cross 0000000000000001 05 0000000000000000000000000000000007"), 1);
    due.is("listed 1", y.listed(1), 57);
  }

  private static void faults() {
    String[] texts = {
        "", " ", "door", ";", "sill;", "sill ; ", "sill;;sill", "sill sill", "sill 3", "sills",
        "sill keeps", "sill keeps ", "sill keeps mended", "sill keeps 12", "sill keeps 1 12",
        "sill keeps 1 2 3 4 5 6", "sill keeps 1 keeps 2", "sill mended mended", "sill mended keeps 1",
        "sill keeps 1 2 3 4 5 mended;poor keeps ;", "keeps 1", "mended", "7",
        "person has", "person has 4096", "person has in", "person has 1 2", "person has 1 has 2",
        "person in", "person in 0", "sill;person in 1", "sill;person in 0 has 3", "sill;person in 0 0",
        "person has 99999999999999999999", "person mended", "person;sill;person in 0;person in 2",
        "cross", "cross 6 0 0", "cross 0 6 0", "cross 0 0 8", "cross 0 0", "cross 0 0 0 0", "cross a",
        "cross 0 ; 0", "Sill", "sill,", "sill\tmended", "sill keeps 1-2", "sill keeps 4294967297",
        "sill\u00e9", "sill;person has 10000", "inn\nmended", "sillz", "asill", "inn`", "inn{", "inn/", "inn:"};
    int[] places = {
        0, 1, 0, 0, 5, 7, 5, 5, 5, 0,
        10, 11, 11, 11, 13,
        21, 13, 12, 12,
        39, 0, 0, 0,
        10, 11, 11, 13, 13,
        9, 10, 15, 17, 17,
        11, 7, 34,
        5, 6, 8, 10, 9, 12, 6,
        8, 0, 4, 4, 12, 11,
        4, 16, 3, 0, 0, 3, 3, 3, 3};
    TollSills x = new TollSills();
    for (int i = 0; i < texts.length; i++) {
      due.is("fault of <" + texts[i] + ">", Due.read(x, texts[i]), -1 - places[i]);
      due.is("tape is empty", x.count(5), 0);
    }
    due.is("as many", texts.length, places.length);
    due.is("no sill", x.count(1), 0);
    due.is("nobody", x.count(2), 0);
    due.is("no list", x.listed(0), 0);
    due.is("no finding", x.status(-1), 0);
    due.is("a fault behind a crossing", Due.read(x, "cross 0 1 1;seal"), -13);
    due.is("leaves the list", x.listed(0), 0);
  }

  private static void limits() {
    TollSills x = new TollSills();
    due.is("nine sills", Due.read(x, "inn;inn;inn;inn;inn;inn;inn;inn;inn"), -33);
    due.is("none of them", x.count(1), 0);
    due.is("eight sills", Due.read(x, "inn;inn;inn;inn;inn;inn;inn;inn"), 8);
    due.is("the ninth", Due.read(x, "person; inn keeps 99"), -9);
    due.is("no person", x.count(2), 0);
    due.is("six people", Due.read(x, "person;person;person;person;person;person"), 6);
    due.is("the seventh", Due.read(x, " person has x"), -2);
    due.is("a crossing", Due.read(x, "cross 3 4 5"), 1);
    due.is("listed", x.listed(3), 45);
    due.is("forty semicolons", Due.read(x, "cross 0 0 0;cross 0 0 1;cross 0 0 2;cross 0 0 3;cross 0 0 4;"
        + "cross 0 0 5;cross 0 0 6;cross 0 0 7;cross 0 1 0;cross 0 1 1"), 10);
    due.is("the last of them", x.listed(0), 11);
  }
}
