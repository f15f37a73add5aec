/** Promises 26 and 27: crossings and kinds by told words. */
public final class ToldTest {
  private static final Due due = new Due();

  public static void main(String[] args) {
    fits();
    fitsOnLaterDays();
    kinds();
    findings();
    due.end();
  }

  private static void fits() {
    TollSills x = Due.quarter("sill;church;saloon;person has 10;person has 4");
    Due.sheet(x, 0, 32);
    due.is("an empty sheet", x.fits(0, 0), 48);
    Due.sheet(x, 0, 32, 10);
    due.is("now", x.fits(0, 0), 48);
    Due.sheet(x, 0, 32, 11);
    due.is("not now", x.fits(0, 0), 0);
    Due.sheet(x, 0, 16, 10, 2);
    due.is("lost 3", x.fits(0, 0), 1);
    Due.sheet(x, 0, 16, 10, 8);
    due.is("lost 1", x.fits(0, 0), 1);
    Due.sheet(x, 0, 8, 10, 10);
    due.is("lost none", x.fits(0, 0), 46);
    Due.sheet(x, 0, 8, -1, -1);
    due.is("any", x.fits(0, 0), 48);
    Due.sheet(x, 0, 8, -1, 2);
    due.is("any, then", x.fits(0, 0), 1);
    Due.sheet(x, 0, 8, -2);
    due.is("no set", x.fits(0, 0), 0);
    Due.sheet(x, 0, 8, 4, 0);
    due.is("the other one", x.fits(0, 1), 3);
    due.is("nothing changed", x.now(0) + x.listed(0) + x.now(6), 0);
    TollSills y = Due.quarter("sill;sill;sill;sill;sill;sill;sill;sill;person;person has 1");
    Due.sheet(y, 0, 8, 1, 0);
    due.is("over any of eight", y.fits(0, 1), 8);
    Due.sheet(y, 0, 8, 1, 1);
    due.is("over none", y.fits(0, 1), 40);
  }

  private static void fitsOnLaterDays() {
    TollSills x = Due.quarter("sill;church;person has 14");
    for (int i = 0; i < 6; i++) {
      x.list(i, 5, 7);
    }
    x.go(2);
    // The place of day 2 comes again on day 8: behind seven days one came out.
    Due.sheet(x, 3, 32, 14, 6, 6, 6, 6, 6, 6, 14);
    due.is("comes out again", x.fits(3, 0), 1);
    x.write(3, 7, 6);
    due.is("never comes out", x.fits(3, 0), 0);
    x.list(5, 0, 0);
    // Over sill 0 out on day 5; then today's place goes in again on day 8.
    Due.sheet(x, 3, 32, 14, 6, 6, 6, 14, -1, -1, 6);
    due.is("another place, too", x.fits(3, 0), 1);
    due.is("today's place stays", x.listed(2), 57);
  }

  private static void kinds() {
    TollSills x = Due.quarter("sill keeps 2 4;person has 6");
    Due.sheet(x, 1, 8);
    due.is("an empty sheet", x.kinds(1, 0), 127);
    Due.sheet(x, 1, 8, 2);
    due.is("now", x.kinds(1, 0), 127);
    Due.sheet(x, 1, 8, 1);
    due.is("not now", x.kinds(1, 0), 0);
    Due.sheet(x, 1, 8, 2, 3);
    // An inn keeps 2 already, marble holds none; saloon and poor take 2, even if it's kept.
    due.is("one more", x.kinds(1, 0), 1 | 2 | 4 | 8 | 32);
    Due.sheet(x, 1, 16, 2, 2);
    due.is("no more", x.kinds(1, 0), 16 | 64);
    Due.sheet(x, 1, 16, -1, -1, 3);
    due.is("bare gives none", x.kinds(1, 0), 32);
    Due.sheet(x, 1, 16, -1, -1, 1);
    due.is("inn and marble give", x.kinds(1, 0), 16 | 64);
    due.is("kind stays", x.of(0, 0), 0);
    due.is("nothing changed", x.now(0) + x.now(6), 0);
    due.is("keeps as before", x.of(0, 1), 2);
  }

  private static void findings() {
    TollSills x = new TollSills();
    due.is("fits -1", x.fits(-1, 0), Due.BEYOND);
    due.is("fits 4", x.fits(4, 0), Due.BEYOND);
    due.is("fits missing", x.fits(3, 0), Due.MISSING);
    due.is("kinds -1", x.kinds(-1, 0), Due.BEYOND);
    due.is("kinds 4", x.kinds(4, 0), Due.BEYOND);
    due.is("kinds missing", x.kinds(3, 0), Due.MISSING);
    x.sheet(3, 8, 1);
    due.is("fits nobody", x.fits(3, 0), Due.BEYOND);
    due.is("kinds of no sill", x.kinds(3, 0), Due.BEYOND);
    x.person(0);
    x.sill(0);
    due.is("fits person -1", x.fits(3, -1), Due.BEYOND);
    due.is("fits person 1", x.fits(3, 1), Due.BEYOND);
    due.is("kinds sill -1", x.kinds(3, -1), Due.BEYOND);
    due.is("kinds sill 1", x.kinds(3, 1), Due.BEYOND);
    due.is("fits 0 words", x.fits(3, 0), 48);
    due.is("kinds 0 words", x.kinds(3, 0), 127);
  }
}
