/** Promises 28 to 30: days by draws. */
public final class DrawsTest {
  private static final Due due = new Due();

  public static void main(String[] args) {
    strolls();
    odds();
    seeds();
    due.end();
  }

  private static int next(int z) {
    return z * 1103515245 + 12345;
  }

  private static void strolls() {
    TollSills x = Due.quarter("marble;marble;marble;marble;marble;marble;marble;marble",
        "person has 4095;person has 4095;person has 4095;person has 4095;person has 4095;person has 4095");
    due.is("stroll 0", x.stroll(0), Due.BEYOND);
    due.is("stroll 21", x.stroll(21), Due.BEYOND);
    due.is("z stays", x.count(6), 1);
    int[] in = {-1, -1, -1, -1, -1, -1};
    int[] list = new int[6];
    int lost = 0;
    int z = 1;
    for (int day = 0; day < 26; day++) {
      z = next(z);
      int one = (z >>> 8) % 6;
      z = next(z);
      int sill = (z >>> 8) % 8;
      list[day % 6] = 10 * one + sill;
      if (in[one] == -1) {
        in[one] = sill;
        lost++;
      } else if (in[one] == sill) {
        in[one] = -1;
      }
      if (day < 6) {
        due.is("stroll 1", x.stroll(1), lost);
        due.is("listed", x.listed(day), list[day]);
        due.is("day", x.now(0), day + 1);
        due.is("z", x.count(6), z);
      }
    }
    due.is("stroll 20", x.stroll(20), lost);
    due.is("z then", x.count(6), z);
    for (int i = 0; i < 6; i++) {
      due.is("listed then", x.listed(i), list[i]);
      due.is("in then", x.ofPerson(i, 1), in[i]);
    }
    due.is("lost then", x.now(1), lost);
    // By hand: the first z is 1103527590, which gives 4310654.
    TollSills y = new TollSills();
    y.stroll(1);
    due.is("first one", y.listed(0) / 10, 4310654 % 6);
    due.is("goes on with draws", y.count(6), next(next(1)));
    y.seed(Integer.MIN_VALUE);
    y.stroll(1);
    due.is("draws are not below 0", y.listed(1), 10 * ((next(Integer.MIN_VALUE) >>> 8) % 6)
        + (next(next(Integer.MIN_VALUE)) >>> 8) % 8);
  }

  private static void odds() {
    TollSills x = Due.quarter("person;person has 1;person has 7;person has 255;person has 31;person has 4095");
    long[][] dues = {
        {0, 0, 1, 1}, {0, 1, 0, 1}, {0, 17, 0, 1},
        {1, 0, 1, 1}, {1, 1, 1, 12}, {1, 17, 1, 2218611106740436992L},
        {2, 3, 1, 64}, {2, 17, 1, 17179869184L},
        {3, 2, 4, 9}, {3, 17, 131072, 129140163},
        {4, 1, 5, 12}, {4, 2, 25, 144}, {4, 17, 762939453125L, 2218611106740436992L},
        {5, 0, 1, 1}, {5, 17, 1, 1}};
    for (long[] d : dues) {
      due.is("odds above " + d[0] + ", " + d[1], x.odds((int) d[0], (int) d[1], 0), d[2]);
      due.is("odds below " + d[0] + ", " + d[1], x.odds((int) d[0], (int) d[1], 1), d[3]);
    }
    due.is("odds -1", x.odds(-1, 0, 0), Due.BEYOND);
    due.is("odds 6", x.odds(6, 0, 0), Due.BEYOND);
    due.is("odds n -1", x.odds(0, -1, 0), Due.BEYOND);
    due.is("odds n 18", x.odds(0, 18, 0), Due.BEYOND);
    due.is("odds what -1", x.odds(0, 0, -1), Due.BEYOND);
    due.is("odds what 2", x.odds(0, 0, 2), Due.BEYOND);
    due.is("counted", x.status(0), 6);
    due.is("draws nothing", x.count(6), 1);
  }

  private static void seeds() {
    TollSills x = new TollSills();
    due.is("seed was 1", x.seed(-2000000), 1);
    due.is("seed is no finding", x.seed(Integer.MAX_VALUE), -2000000);
    due.is("seed", x.count(6), Integer.MAX_VALUE);
    due.is("no findings", x.status(-1), 0);
  }
}
