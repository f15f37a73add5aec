/** Promises 34 to 40: spots and sheets. */
public final class SheetsTest {
  private static final Due due = new Due();

  public static void main(String[] args) {
    holds();
    kindsOfSpots();
    sheets();
    writes();
    copies();
    loads();
    judges();
    due.end();
  }

  private static void holds() {
    TollSills x = Due.quarter("sill;inn");
    due.is("hold", x.hold(0, 1), 1);
    due.is("hold 9", x.hold(9, 0), 1);
    due.is("spots", x.count(7), 2);
    due.is("hold nothing", x.hold(0, -1), 1);
    due.is("hold nothing again", x.hold(5, -1), 1);
    due.is("spots then", x.count(7), 1);
    due.is("spot -1", x.hold(-1, 0), Due.BEYOND);
    due.is("spot 10", x.hold(10, 0), Due.BEYOND);
    due.is("sill 2", x.hold(9, 2), Due.BEYOND);
    due.is("sill -2", x.hold(9, -2), Due.BEYOND);
    due.is("holds as before", x.as(9, 0), 0);
  }

  private static void kindsOfSpots() {
    TollSills x = Due.quarter("sill;church;saloon;poor;inn;bare;marble");
    // Of which kinds (a set) each kind is.
    int[] above = {1, 3, 5, 13, 29, 33, 67};
    for (int kind = 0; kind < 7; kind++) {
      x.hold(kind, kind);
      for (int as = 0; as < 7; as++) {
        boolean is = (above[kind] >> as & 1) != 0;
        due.is("spot of " + kind + " as " + as, x.as(kind, as), is ? kind : Due.KIND);
      }
    }
    due.is("as -1", x.as(0, -1), Due.BEYOND);
    due.is("as 7", x.as(0, 7), Due.BEYOND);
    due.is("spot -1", x.as(-1, 0), Due.BEYOND);
    due.is("spot 10", x.as(10, 0), Due.BEYOND);
    due.is("spot of nothing", x.as(9, 0), Due.MISSING);
    due.is("spot of nothing as 7", x.as(9, 7), Due.BEYOND);
    x.change(0, 0, 4);
    due.is("as it is now", x.as(0, 2), 0);
  }

  private static void sheets() {
    TollSills x = new TollSills();
    due.is("sheet 8", x.sheet(0, 8, 40), 40);
    due.is("sheet 16", x.sheet(1, 16, 0), 0);
    due.is("sheet 32", x.sheet(3, 32, 1), 1);
    due.is("sheet -1", x.sheet(-1, 8, 1), Due.BEYOND);
    due.is("sheet 4", x.sheet(4, 8, 1), Due.BEYOND);
    due.is("bits 7", x.sheet(0, 7, 1), Due.BEYOND);
    due.is("bits 64", x.sheet(0, 64, 1), Due.BEYOND);
    due.is("bits -8, size -1", x.sheet(0, -8, -1), Due.BEYOND);
    due.is("size -1", x.sheet(0, 8, -1), Due.SIZE);
    due.is("size -1 of bits 0", x.sheet(0, 0, -1), Due.SIZE);
    due.is("size 41", x.sheet(0, 8, 41), Due.BEYOND);
    due.is("size 41 of bits 0", x.sheet(0, 0, 41), Due.BEYOND);
    due.is("as it was", x.write(0, 39, 1), 1);
    due.is("away", x.sheet(0, 0, 7), 0);
    due.is("missing", x.write(0, 0, 1), Due.MISSING);
    due.is("away again", x.sheet(0, 0, 0), 0);
    x.sill(0);
    x.lay(0, 0);
    x.lay(0, 0);
    Due.sheet(x, 2, 32, 5, 5);
    due.is("not 0", x.judge(2), 1);
    x.sheet(2, 32, 2);
    due.is("all 0", x.judge(2), 0);
    Due.sheet(x, 2, 32, 5, 5);
    x.sheet(2, 0, 0);
    x.sheet(2, 8, 2);
    due.is("all 0 again", x.judge(2), 0);
  }

  private static void writes() {
    TollSills x = new TollSills();
    due.is("write -1", x.write(-1, 0, 0), Due.BEYOND);
    due.is("write 4", x.write(4, 0, 0), Due.BEYOND);
    due.is("write missing", x.write(0, 99, 0), Due.MISSING);
    x.sheet(0, 8, 3);
    due.is("number -1", x.write(0, -1, 0), Due.BEYOND);
    due.is("number 3", x.write(0, 3, 0), Due.BEYOND);
    due.is("number 2", x.write(0, 2, 0), 1);
    x.sill(0);
    for (int bits = 8; bits <= 32; bits *= 2) {
      x.sheet(1, bits, 1);
      x.person(0);
      x.write(1, 0, 0x1007);
      due.is("lowest bits of 4103, " + bits, x.load(1), bits == 8 ? 1 : 0);
      x.write(1, 0, 0x10007);
      due.is("lowest bits of 65543, " + bits, x.load(1), bits == 32 ? 0 : 1);
      due.is("are 7", x.ofPerson(0, 0), 7);
      x.write(1, 0, 200);
      due.is("bits of 200, " + bits, x.load(1), bits == 8 ? 0 : 1);
      x.write(1, 0, -1);
      due.is("-1 is any, " + bits, x.fits(1, 0), 48);
      x.send(0, 0, 7);
    }
    x.sheet(1, 8, 1);
    x.write(1, 0, 255);
    due.is("255 of 8 bits is any", x.kinds(1, 0), 127);
    x.sheet(1, 16, 1);
    x.write(1, 0, 255);
    due.is("255 of 16 bits isn't", x.kinds(1, 0), 0);
    x.write(1, 0, 65535);
    due.is("65535 of 16 bits is any", x.kinds(1, 0), 127);
  }

  private static void copies() {
    TollSills x = Due.quarter("saloon keeps 1 2 1 2 3");
    due.is("copy -1", x.copy(-1, 0, 0, 0, 0), Due.BEYOND);
    due.is("copy 4", x.copy(4, 0, 0, 0, 0), Due.BEYOND);
    due.is("copy to -1", x.copy(0, 0, -1, 0, 0), Due.BEYOND);
    due.is("copy to 4", x.copy(0, 0, 4, 0, 0), Due.BEYOND);
    due.is("missing", x.copy(0, 0, 1, 0, 0), Due.MISSING);
    Due.sheet(x, 0, 16, 1, 2, 3, 4, 5);
    due.is("one is missing", x.copy(0, 0, 1, 0, 0), Due.MISSING);
    due.is("the other is missing", x.copy(1, 0, 0, 0, 0), Due.MISSING);
    x.sheet(1, 8, 5);
    due.is("other bits", x.copy(0, -1, 1, 0, 0), Due.KIND);
    x.sheet(1, 16, 3);
    int big = Integer.MAX_VALUE;
    int[][] wrong = {{-1, 0, 1}, {0, -1, 1}, {0, 0, -1}, {0, 0, 4}, {0, 1, 3}, {3, 0, 3}, {6, 0, 0}, {0, 4, 0},
        {big, 0, 1}, {0, big, 1}, {0, 0, big}, {big, big, big}, {1, 1, big}, {-big, 0, big}};
    for (int[] w : wrong) {
      due.is("copy beyond", x.copy(0, w[0], 1, w[1], w[2]), Due.BEYOND);
    }
    due.is("copy none at the ends", x.copy(0, 5, 1, 3, 0), 0);
    // Within one sheet, forth: 1 2 1 2 3.
    due.is("forth", x.copy(0, 0, 0, 2, 3), 3);
    due.is("as they all were", x.judge(0), 0);
    Due.sheet(x, 0, 16, 7, 1, 2, 1, 2);
    due.is("back", x.copy(0, 1, 0, 0, 4), 4);
    due.is("first wrong is the last", x.judge(0), 5);
    Due.sheet(x, 0, 16, 9, 9, 1, 2, 1);
    due.is("to another", x.copy(0, 2, 1, 0, 3), 3);
    due.is("came", x.judge(1), 0);
    due.is("first stays", x.judge(0), 1);
    due.is("in the middle", x.copy(0, 0, 1, 1, 1), 1);
    due.is("came there", x.judge(1), 2);
  }

  private static void loads() {
    TollSills x = Due.quarter("person has 1;person has 2;person has 3");
    due.is("load -1", x.load(-1), Due.BEYOND);
    due.is("load 4", x.load(4), Due.BEYOND);
    due.is("load missing", x.load(0), Due.MISSING);
    Due.sheet(x, 0, 32);
    due.is("load none", x.load(0), 0);
    Due.sheet(x, 0, 32, 4095, 0, 7, 8, 9);
    due.is("load for three", x.load(0), 3);
    due.is("has 4095", x.ofPerson(0, 0), 4095);
    due.is("has 0", x.ofPerson(1, 0), 0);
    due.is("has 7", x.ofPerson(2, 0), 7);
    Due.sheet(x, 0, 32, 5, 4096, 6);
    due.is("4096 ends it", x.load(0), 1);
    due.is("has 5", x.ofPerson(0, 0), 5);
    due.is("third as before", x.ofPerson(2, 0), 7);
    Due.sheet(x, 0, 8, 1, 2, -1);
    due.is("-1 ends it", x.load(0), 2);
    due.is("third still", x.ofPerson(2, 0), 7);
    Due.sheet(x, 0, 16, 9);
    due.is("shorter than people", x.load(0), 1);
    TollSills y = new TollSills();
    y.sheet(0, 8, 3);
    due.is("nobody is there", y.load(0), 0);
  }

  private static void judges() {
    TollSills x = new TollSills();
    due.is("judge -1", x.judge(-1), Due.BEYOND);
    due.is("judge 4", x.judge(4), Due.BEYOND);
    due.is("judge missing", x.judge(2), Due.MISSING);
    x.sheet(2, 8, 0);
    due.is("nothing told of no sill", x.judge(2), 0);
    x.sheet(2, 8, 1);
    due.is("told of no sill", x.judge(2), 1);
    Due.read(x, "sill keeps 5 0 5;sill keeps 9");
    Due.sheet(x, 2, 8, 5, 0, 5);
    due.is("as told", x.judge(2), 0);
    Due.sheet(x, 2, 8, 5, 0);
    due.is("fewer told", x.judge(2), 0);
    Due.sheet(x, 2, 8, 5, 0, 5, 0);
    due.is("more told", x.judge(2), 4);
    Due.sheet(x, 2, 8, 5, 5, 0);
    due.is("another order", x.judge(2), 2);
    Due.sheet(x, 2, 8, 5, 0, 5, -1);
    due.is("-1 is no word", x.judge(2), 4);
    Due.sheet(x, 2, 8, -1);
    due.is("-1 isn't any here", x.judge(2), 1);
  }
}
