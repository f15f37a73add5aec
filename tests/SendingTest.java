/** Promises 21 to 25: whom to send where, with which word, as what, and which to mend. */
public final class SendingTest {
  private static final Due due = new Due();

  public static void main(String[] args) {
    sillFor();
    kindFor();
    wordFor();
    mend();
    mendFewest();
    seek();
    due.end();
  }

  private static void sillFor() {
    TollSills x = Due.quarter("marble;marble;inn keeps 4 4;sill;person has 4095");
    for (int i = 1; i < 6; i++) {
      x.list(i, 5, 7);
    }
    // Marble forgets, the inn is full, a sill keeps it, behind which all do.
    due.is("sillFor", x.sillFor(0, 1), 3);
    due.is("sillFor in no days", x.sillFor(0, 0), 0);
    due.is("sillFor 60", x.sillFor(0, 60), 3);
    due.is("of a place for nobody", x.sillFor(1, 1), 0);
    due.is("list stays", x.listed(0), 0);
    due.is("nothing is lost", x.now(1) + x.now(0), 0);
    x.change(3, 0, 6);
    due.is("one that isn't there", x.sillFor(0, 1), 4);
    due.is("sillFor -1", x.sillFor(-1, 0), Due.BEYOND);
    due.is("sillFor 6", x.sillFor(6, 0), Due.BEYOND);
    due.is("sillFor n -1", x.sillFor(0, -1), Due.BEYOND);
    due.is("sillFor n 61", x.sillFor(0, 61), Due.BEYOND);
    // The place keeps its one: one who has nothing loses nothing anywhere.
    TollSills y = Due.quarter("marble;person has 1;person");
    y.list(0, 1, 0);
    due.is("its one", y.sillFor(0, 1), 0);
    due.is("the other one", y.sillFor(1, 2), 1);
    TollSills z = Due.quarter("marble;marble;church;person;person;person;person;person;person has 2");
    z.list(3, 5, 1);
    z.go(3);
    due.is("the last one", z.sillFor(3, 1), 2);
  }

  private static void kindFor() {
    TollSills x = Due.quarter("marble keeps 1 2 3;person has 16");
    due.is("kindFor 0 days", x.kindFor(0, 0), 0);
    due.is("a church holds 4", x.kindFor(0, 1), 1);
    x.lay(0, 5);
    due.is("a saloon holds 5", x.kindFor(0, 1), 2);
    x.lay(0, 6);
    due.is("all would lose it", x.kindFor(0, 1), 0);
    x.send(0, 0, 2 | 8);
    due.is("a saloon takes no odd one", x.kindFor(0, 1), 2);
    due.is("kind stays", x.of(0, 0), 6);
    due.is("kindFor 60", x.kindFor(0, 60) >= 0 ? 1 : 0, 1);
    due.is("kindFor -1", x.kindFor(-1, 0), Due.BEYOND);
    due.is("kindFor 1", x.kindFor(1, 0), Due.BEYOND);
    due.is("kindFor n -1", x.kindFor(0, -1), Due.BEYOND);
    due.is("kindFor n 61", x.kindFor(0, 61), Due.BEYOND);
    TollSills y = Due.quarter("sill keeps 0 1 2 8 3;person has 256");
    due.is("an inn that keeps it takes none", y.kindFor(0, 1), 4);
  }

  private static void wordFor() {
    TollSills x = Due.quarter("sill;person has 4095;person has 1");
    x.list(0, 0, 0);
    x.list(1, 1, 0);
    x.list(2, 1, 0);
    // The other one's 0 goes behind; it gets what was laid down first.
    due.is("wordFor 3", x.wordFor(0, 1, 3), 1);
    due.is("wordFor 2", x.wordFor(0, 1, 2), Due.NONE);
    due.is("wordFor 0", x.wordFor(0, 1, 0), Due.NONE);
    due.is("words stay", x.ofPerson(0, 0), 4095);
    x.send(1, 0, 4095);
    due.is("has all of them now", x.wordFor(0, 1, 3), Due.NONE);
    x.send(1, 0, 0);
    due.is("has none now", x.wordFor(0, 1, 3), 0);
    x.change(0, 0, 2);
    x.send(1, 0, 1);
    // A saloon takes even ones alone, and gives the last: the other one's own.
    due.is("a saloon", x.wordFor(0, 1, 3), Due.NONE);
    x.send(1, 0, 1 << 1);
    due.is("a saloon, of one with an odd word", x.wordFor(0, 1, 3), 0);
    due.is("one and the same", x.wordFor(0, 0, 3), Due.BEYOND);
    due.is("from -1", x.wordFor(-1, 0, 3), Due.BEYOND);
    due.is("from 2", x.wordFor(2, 0, 3), Due.BEYOND);
    due.is("to -1", x.wordFor(0, -1, 3), Due.BEYOND);
    due.is("to 2", x.wordFor(0, 2, 3), Due.BEYOND);
    due.is("n -1", x.wordFor(0, 1, -1), Due.BEYOND);
    due.is("n 61", x.wordFor(0, 1, 61), Due.BEYOND);
    // A word that the other one gets without it does for it, too.
    TollSills y = Due.quarter("sill keeps 9;person has 4;person in 0");
    y.list(0, 1, 0);
    due.is("has it anyhow", y.wordFor(0, 1, 1), 9);
    due.is("n 60", y.wordFor(0, 1, 60) == Due.BEYOND ? 0 : 1, 1);
  }

  private static void mend() {
    TollSills x = Due.quarter("sill;church keeps 5;person has 8;person in 1");
    x.list(0, 1, 1);
    x.list(1, 0, 0);
    x.list(2, 1, 0);
    due.is("hasn't it", x.mend(1, 7, 20), 0);
    due.is("mend 1", x.mend(1, 5, 1), 2);
    due.is("goes in with it, by itself", x.mend(1, 5, 3), 0);
    due.is("of one who has it now", x.mend(0, 3, 0), Due.NONE);
    due.is("of one who would give it", x.mend(0, 3, 2), 0);
    due.is("of one who keeps it", x.mend(0, 3, 1), Due.NONE);
    due.is("nothing is mended", x.of(0, 3) + x.of(1, 3), 0);
    due.is("mend -1", x.mend(-1, 0, 0), Due.BEYOND);
    due.is("mend 2", x.mend(2, 0, 0), Due.BEYOND);
    due.is("mend word -1", x.mend(0, -1, 0), Due.BEYOND);
    due.is("mend word 12", x.mend(0, 12, 0), Due.BEYOND);
    due.is("mend n -1", x.mend(0, 0, -1), Due.BEYOND);
    due.is("mend n 21", x.mend(0, 0, 21), Due.BEYOND);
  }

  /** Word 5 comes to one by any of three ways or by one chain, which one sill cuts, or two. */
  private static void mendFewest() {
    // One gets 5 over sill 0, gives it up at sill 1, and gets another 5 there from the other one.
    TollSills x = Due.quarter("sill keeps 5;sill keeps 5;sill;person in 0;person");
    x.list(0, 0, 0);
    x.list(1, 0, 1);
    x.list(2, 0, 1);
    x.list(3, 5, 7);
    // Mending 0: stays in. Mending 1: keeps the first 5. So {0} alone does.
    due.is("one does", x.mend(0, 5, 3), 1);
    x.send(0, 1, -1);
    // Now: goes in at 0, doesn't get in at 1, so hasn't it behind three days.
    due.is("none is needed", x.mend(0, 5, 3), 0);
    // In and out at 0, in and out at 1, each giving 5: either mended leaves the other.
    TollSills y = Due.quarter("sill keeps 5;sill keeps 5;sill keeps 5;person");
    y.list(0, 0, 1);
    y.list(1, 0, 1);
    y.list(2, 0, 2);
    y.list(3, 0, 2);
    due.is("both are needed", y.mend(0, 5, 4), 6);
    y.change(1, 3, 1);
    due.is("one is mended already", y.mend(0, 5, 4), 4);
    y.list(4, 0, 0);
    y.list(5, 0, 0);
    y.change(1, 3, 0);
    due.is("all are needed", y.mend(0, 5, 6), 7);
    // The fewest count before the least: {2} comes before {0, 1}.
    TollSills z = Due.quarter("sill;sill;church keeps 7;person has 1;person");
    z.list(0, 1, 2);
    z.list(1, 1, 2);
    due.is("the fewest", z.mend(1, 7, 2), 4);
  }

  private static void seek() {
    TollSills x = Due.quarter("sill keeps 1;sill keeps 2;bare keeps 9;saloon keeps 4 3 6;person has 128", "person in 0");
    due.is("seek 1", x.seek(0, 1), 0);
    // It leaves 7 at sill 0, comes out with 1, leaves that at sill 1, comes out with 2.
    due.is("seek 2", x.seek(0, 2), 1);
    due.is("bare gives none", x.seek(0, 9), Due.NONE);
    // 2 is taken by the bare sill, so the saloon takes none and gives its last.
    due.is("seek 6", x.seek(0, 6), 3);
    due.is("seek 3", x.seek(0, 3), Due.NONE);
    due.is("has it already", x.seek(0, 7), Due.STATE);
    due.is("is in a house", x.seek(1, 1), Due.STATE);
    due.is("seek -1", x.seek(-1, 1), Due.BEYOND);
    due.is("seek 2", x.seek(2, 1), Due.BEYOND);
    due.is("seek word -1", x.seek(0, -1), Due.BEYOND);
    due.is("seek word 12", x.seek(0, 12), Due.BEYOND);
    x.change(0, 3, 1);
    due.is("not behind a mended one", x.seek(0, 1), Due.NONE);
    due.is("nobody crossed", x.now(6) + x.now(4), 2);
    due.is("words stay", x.word(3, 2), 6);
    TollSills y = Due.quarter("marble;person");
    due.is("no words", y.seek(0, 0), Due.NONE);
  }
}
