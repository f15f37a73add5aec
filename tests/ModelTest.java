import java.util.Random;

/** Runs of drawn calls, answered by the class and by the model alike. */
public final class ModelTest {
  private static final int RUNS = 400;
  private static final int CALLS = 512;
  private static final String[] NAMES = {"list", "listed", "sill", "person", "of", "word", "change", "lay",
      "ofPerson", "send", "takes", "cross", "go", "now", "ahead", "later", "hears", "waste", "mute", "sillFor",
      "kindFor", "wordFor", "mend", "seek", "fits", "kinds", "stroll", "odds", "seed", "feed", "wipe", "text",
      "hold", "as", "sheet", "write", "copy", "load", "judge", "image", "undo", "tear", "count", "status"};
  private static final String[] TOKENS = {"sill", "church", "saloon", "poor", "inn", "bare", "marble", "keeps",
      "mended", "person", "has", "in", "cross", ";", ";", ";", "0", "1", "2", "3", "5", "7", "11", "12", "4095",
      "4096", "00", "sil", "!"};

  private final Due due = new Due();
  private final int[] called = new int[NAMES.length];
  private final int[] found = new int[NAMES.length];

  public static void main(String[] args) {
    ModelTest test = new ModelTest();
    for (int run = 0; run < RUNS; run++) {
      test.run(run);
    }
    test.wasAllCalled();
    test.due.end();
  }

  private void run(int seed) {
    Random random = new Random(seed);
    TollSills x = new TollSills();
    Model model = new Model();
    for (int i = 0; i < CALLS; i++) {
      int which = random.nextInt(NAMES.length);
      if (which == 29 && random.nextInt(3) > 0) {
        i += feedText(random, x, model, seed, CALLS - i);
      } else if (which == 35 && random.nextInt(3) > 0) {
        i += writeTrueSheet(random, x, model, seed);
      } else {
        compare(seed, x, model, which, arguments(random, model, which));
      }
    }
  }

  private void compare(int run, TollSills x, Model model, int which, int[] v) {
    long want = model.call(which, v[0], v[1], v[2], v[3], v[4]);
    called[which]++;
    found[which] += want < -1000000 && which != 28 ? 1 : 0;
    due.is("run " + run + ": " + NAMES[which] + java.util.Arrays.toString(v), answer(x, which, v), want);
  }

  private void wasAllCalled() {
    for (int i = 0; i < NAMES.length; i++) {
      due.is(NAMES[i] + " was called", called[i] > 100 ? 1 : 0, 1);
      due.is(NAMES[i] + " answered no finding now and then", called[i] - found[i] > 30 ? 1 : 0, 1);
    }
  }

  /** Whole texts, mostly right ones, and then text() itself. */
  private int feedText(Random random, TollSills x, Model model, int run, int left) {
    StringBuilder text = new StringBuilder();
    int items = 1 + random.nextInt(6);
    for (int i = 0; i < items; i++) {
      text.append(i == 0 ? "" : ";").append(item(random));
    }
    if (random.nextInt(3) == 0) {
      text.insert(random.nextInt(text.length() + 1), TOKENS[random.nextInt(TOKENS.length)]);
    }
    int calls = 0;
    for (int i = 0; i < text.length() && calls + 2 < left; ) {
      int n = Math.min(1 + random.nextInt(4), text.length() - i);
      int bytes = random.nextInt();
      for (int k = 0; k < n; k++) {
        bytes = bytes << 8 | text.charAt(i + k);
      }
      i += n;
      compare(run, x, model, 29, new int[] {bytes, n, 0, 0, 0});
      calls++;
    }
    compare(run, x, model, 31, new int[5]);
    return calls;
  }

  private static String item(Random random) {
    switch (random.nextInt(4)) {
      case 0:
        return "person" + (random.nextInt(2) == 0 ? " has " + random.nextInt(4100) : "")
            + (random.nextInt(3) == 0 ? " in " + random.nextInt(4) : "");
      case 1:
        return "cross " + random.nextInt(6) + " " + random.nextInt(6) + " " + random.nextInt(8);
      default:
        StringBuilder sill = new StringBuilder(TOKENS[random.nextInt(7)]);
        int keeps = random.nextInt(6);
        for (int i = 0; i < keeps; i++) {
          sill.append(i == 0 ? " keeps " : " ").append(random.nextInt(12));
        }
        return sill.append(random.nextInt(6) == 0 ? " mended" : "").toString();
    }
  }

  /** A sheet that tells what will be so, so that fits() and kinds() find something. */
  private int writeTrueSheet(Random random, TollSills x, Model model, int run) {
    int s = random.nextInt(4);
    int n = random.nextInt(14);
    boolean ofPeople = random.nextBoolean();
    int size = ofPeople ? model.town.people.size() : model.town.sills.size();
    if (size == 0) {
      return 0;
    }
    int who = random.nextInt(size);
    compare(run, x, model, 34, new int[] {s, ofPeople ? 16 : 8, n, 0, 0});
    for (int i = 0; i < n; i++) {
      Model.Town then = new Model.Town(model.town).days(i);
      int told = ofPeople ? then.people.get(who).has : then.sills.get(who).keeps.size();
      int v = random.nextInt(3) == 0 ? -1 : random.nextInt(40) == 0 ? told + 1 : told;
      compare(run, x, model, 35, new int[] {s, i, v, 0, 0});
    }
    compare(run, x, model, ofPeople ? 24 : 25, new int[] {s, who, 0, 0, 0});
    return n + 1;
  }

  /** Mostly arguments that are right or near it, now and then any. */
  private static int[] arguments(Random random, Model model, int which) {
    int[] v = new int[5];
    int[] most = mostOf(which, model);
    for (int i = 0; i < 5; i++) {
      int chance = random.nextInt(60);
      if (chance == 0) {
        v[i] = random.nextInt();
      } else if (chance < 3) {
        v[i] = -1;
      } else {
        v[i] = random.nextInt(Math.max(most[i], 0) + (chance < 8 ? 2 : 1));
      }
    }
    if (which == 34) {
      v[1] = random.nextInt(20) == 0 ? v[1] : 8 * (random.nextInt(8) == 0 ? 0 : 1 << random.nextInt(3));
    }
    return v;
  }

  private static int[] mostOf(int which, Model model) {
    int sill = model.town.sills.size() - 1;
    int one = model.town.people.size() - 1;
    int[][] most = {{5, 5, 7}, {5}, {6}, {4095}, {sill, 6}, {sill, 4}, {sill, 3, 6}, {sill, 11}, {one, 2}, {one, 2, 12},
        {sill, 4095}, {one, sill}, {60}, {7}, {sill, 6, 100}, {one, 2, 100}, {one, 11}, {40}, {one}, {5, 60},
        {sill, 60}, {one, one, 60}, {one, 11, 20}, {one, 11}, {3, one}, {3, sill}, {20}, {one, 17, 1}, {99999},
        {0x7fffffff - 2, 4}, {0}, {0}, {9, sill}, {9, 6}, {3, 32, 40}, {3, 20, 4095}, {3, 6, 3, 6, 6}, {3}, {3}, {0},
        {0}, {0}, {7}, {6}};
    return java.util.Arrays.copyOf(most[which], 5);
  }

  private static long answer(TollSills x, int which, int[] v) {
    int a = v[0];
    int b = v[1];
    int c = v[2];
    switch (which) {
      case 0: return x.list(a, b, c);
      case 1: return x.listed(a);
      case 2: return x.sill(a);
      case 3: return x.person(a);
      case 4: return x.of(a, b);
      case 5: return x.word(a, b);
      case 6: return x.change(a, b, c);
      case 7: return x.lay(a, b);
      case 8: return x.ofPerson(a, b);
      case 9: return x.send(a, b, c);
      case 10: return x.takes(a, b);
      case 11: return x.cross(a, b);
      case 12: return x.go(a);
      case 13: return x.now(a);
      case 14: return x.ahead(a, b, c);
      case 15: return x.later(a, b, c);
      case 16: return x.hears(a, b);
      case 17: return x.waste(a);
      case 18: return x.mute(a);
      case 19: return x.sillFor(a, b);
      case 20: return x.kindFor(a, b);
      case 21: return x.wordFor(a, b, c);
      case 22: return x.mend(a, b, c);
      case 23: return x.seek(a, b);
      case 24: return x.fits(a, b);
      case 25: return x.kinds(a, b);
      case 26: return x.stroll(a);
      case 27: return x.odds(a, b, c);
      case 28: return x.seed(a);
      case 29: return x.feed(a, b);
      case 30: return x.wipe();
      case 31: return x.text();
      case 32: return x.hold(a, b);
      case 33: return x.as(a, b);
      case 34: return x.sheet(a, b, c);
      case 35: return x.write(a, b, c);
      case 36: return x.copy(a, b, c, v[3], v[4]);
      case 37: return x.load(a);
      case 38: return x.judge(a);
      case 39: return x.image();
      case 40: return x.undo();
      case 41: return x.tear();
      case 42: return x.count(a);
      default: return x.status(a);
    }
  }
}
