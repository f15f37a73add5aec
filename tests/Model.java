import java.util.ArrayList;
import java.util.List;
import java.util.regex.Matcher;
import java.util.regex.Pattern;

/** The document once more, as plainly as can be, to compare the class with. */
final class Model {
  static class Sill {
    List<Integer> keeps = new ArrayList<>();
    int kind;
    int wear;
    boolean mended;

    Sill(int kind) {
      this.kind = kind;
    }

    Sill(Sill other) {
      keeps = new ArrayList<>(other.keeps);
      kind = other.kind;
      wear = other.wear;
      mended = other.mended;
    }

    int takes(int kindNow, List<Integer> words) {
      Integer most = null;
      switch (kindNow) {
        case 1:
        case 6:
          return words.isEmpty() ? -1 : words.get(0);
        case 2:
          for (Integer w : words) {
            if (w % 2 == 0) {
              most = w;
            }
          }
          return most == null ? -1 : most;
        case 3:
          return takes(2, words) >= 0 ? takes(2, words) : takes(0, words);
        case 4:
          int poors = takes(3, words);
          return keeps.contains(poors) ? -1 : poors;
        default:
          return words.isEmpty() ? -1 : words.get(words.size() - 1);
      }
    }

    int holds(int kindNow) {
      switch (kindNow) {
        case 1:
          return holds(0) + 1;
        case 2:
          return holds(0) + 2;
        case 3:
          return holds(2) - 1;
        case 4:
          return holds(3) / 2;
        case 6:
          return 0;
        default:
          return 3;
      }
    }

    /** The place of what it gives, -1: none. */
    int gives(int kindNow) {
      if (keeps.isEmpty() || kindNow == 5) {
        return -1;
      }
      switch (kindNow) {
        case 2:
          return keeps.size() - 1;
        case 3:
          return wear % 3 == 0 ? 0 : gives(2);
        case 4:
          return gives(3);
        default:
          return 0;
      }
    }

    int givenWord() {
      return gives(kind) < 0 ? -1 : keeps.get(gives(kind));
    }

    int set() {
      int set = 0;
      for (int w : keeps) {
        set |= 1 << w;
      }
      return set;
    }
  }

  static class One {
    int has;
    int in = -1;
    int crossed;

    One(int has) {
      this.has = has;
    }

    One(One other) {
      has = other.has;
      in = other.in;
      crossed = other.crossed;
    }

    List<Integer> words() {
      List<Integer> words = new ArrayList<>();
      for (int w = 0; w < 12; w++) {
        if ((has & 1 << w) != 0) {
          words.add(w);
        }
      }
      return words;
    }

    boolean hasWord(int w) {
      return words().contains(w);
    }
  }

  static class Town {
    List<Sill> sills = new ArrayList<>();
    List<One> people = new ArrayList<>();
    int[] list = new int[6];
    int lost;
    int day;
    int z = 1;
    int[] spots = {-1, -1, -1, -1, -1, -1, -1, -1, -1, -1};

    Town() {
    }

    Town(Town other) {
      for (Sill s : other.sills) {
        sills.add(new Sill(s));
      }
      for (One p : other.people) {
        people.add(new One(p));
      }
      list = other.list.clone();
      lost = other.lost;
      day = other.day;
      z = other.z;
      spots = other.spots.clone();
    }

    void lose() {
      lost = Math.min(99999, lost + 1);
    }

    int crossing(int person, int sill) {
      if (person >= people.size() || sill >= sills.size() || sills.get(sill).mended) {
        return -1;
      }
      One p = people.get(person);
      Sill s = sills.get(sill);
      int word;
      if (p.in == -1) {
        word = s.takes(s.kind, p.words());
        p.in = sill;
        if (word >= 0) {
          p.has -= 1 << word;
          if (s.keeps.size() < s.holds(s.kind)) {
            s.keeps.add(word);
          } else {
            lose();
          }
        }
      } else if (p.in == sill) {
        word = s.givenWord();
        p.in = -1;
        if (word >= 0) {
          s.keeps.remove(s.gives(s.kind));
          if (p.hasWord(word)) {
            lose();
          } else {
            p.has += 1 << word;
          }
        }
      } else {
        return -1;
      }
      s.wear = Math.min(9999, s.wear + 1);
      p.crossed = Math.min(9999, p.crossed + 1);
      return word;
    }

    Town days(int n) {
      for (int i = 0; i < n; i++) {
        crossing(list[day % 6] / 10, list[day % 6] % 10);
        day = Math.min(99999, day + 1);
      }
      return this;
    }

    int draw() {
      z = z * 1103515245 + 12345;
      return z >>> 8;
    }
  }

  Town town = new Town();
  Town kept = null;
  String tape = "";
  int[][] sheets = new int[4][];
  int[] bits = new int[4];
  int[] found = new int[7];

  private int tell(int finding) {
    found[-1000001 - finding]++;
    return finding;
  }

  private boolean isSill(int s) {
    return s >= 0 && s < town.sills.size();
  }

  private boolean isOne(int p) {
    return p >= 0 && p < town.people.size();
  }

  private static boolean in(int v, int least, int most) {
    return least <= v && v <= most;
  }

  private int beyond() {
    return tell(Due.BEYOND);
  }

  /** Calls number which of the face, in its order, with up to five arguments. */
  long call(int which, int a, int b, int c, int d, int e) {
    if (which <= 11) {
      return quarterCall(which, a, b, c);
    }
    if (which <= 18) {
      return dayCall(which, a, b, c);
    }
    if (which <= 25) {
      return planCall(which, a, b, c);
    }
    if (which <= 31) {
      return tapeCall(which, a, b, c);
    }
    return sheetCall(which, a, b, c, d, e);
  }

  private long quarterCall(int which, int a, int b, int c) {
    switch (which) {
      case 0:
        if (!in(a, 0, 5) || !in(b, 0, 5) || !in(c, 0, 7)) {
          return beyond();
        }
        int was = town.list[a];
        town.list[a] = 10 * b + c;
        return was;
      case 1:
        return in(a, 0, 5) ? town.list[a] : beyond();
      case 2:
        if (!in(a, 0, 6)) {
          return beyond();
        }
        if (town.sills.size() == 8) {
          return tell(Due.FULL);
        }
        town.sills.add(new Sill(a));
        return town.sills.size() - 1;
      case 3:
        if (!in(a, 0, 4095)) {
          return beyond();
        }
        if (town.people.size() == 6) {
          return tell(Due.FULL);
        }
        town.people.add(new One(a));
        return town.people.size() - 1;
      case 4:
        return isSill(a) && in(b, 0, 6) ? of(town.sills.get(a), b) : beyond();
      case 5:
        if (!isSill(a) || b < 0) {
          return beyond();
        }
        return b < town.sills.get(a).keeps.size() ? town.sills.get(a).keeps.get(b) : tell(Due.NONE);
      case 6:
        return change(a, b, c);
      case 7:
        if (!isSill(a) || !in(b, 0, 11)) {
          return beyond();
        }
        if (town.sills.get(a).keeps.size() == 5) {
          return tell(Due.FULL);
        }
        town.sills.get(a).keeps.add(b);
        return town.sills.get(a).keeps.size();
      case 8:
        return isOne(a) && in(b, 0, 2) ? ofOne(town.people.get(a), b) : beyond();
      case 9:
        return send(a, b, c);
      case 10:
        if (!isSill(a) || !in(b, 0, 4095)) {
          return beyond();
        }
        int taken = town.sills.get(a).takes(town.sills.get(a).kind, new One(b).words());
        return taken < 0 ? tell(Due.NONE) : taken;
      default:
        if (!isOne(a) || !isSill(b)) {
          return beyond();
        }
        if (town.sills.get(b).mended || town.people.get(a).in != -1 && town.people.get(a).in != b) {
          return tell(Due.STATE);
        }
        return town.crossing(a, b);
    }
  }

  private static int of(Sill s, int what) {
    int[] all = {s.kind, s.keeps.size(), s.wear, s.mended ? 1 : 0, s.holds(s.kind), s.set(), s.givenWord()};
    return all[what];
  }

  private static int ofOne(One p, int what) {
    int[] all = {p.has, p.in, p.crossed};
    return all[what];
  }

  private int change(int a, int what, int v) {
    int[] most = {6, -1, 9999, 1};
    if (!isSill(a) || !in(what, 0, 3) || !in(v, 0, most[what])) {
      return beyond();
    }
    Sill s = town.sills.get(a);
    int was = of(s, what);
    if (what == 0) {
      s.kind = v;
    } else if (what == 2) {
      s.wear = v;
    } else {
      s.mended = v == 1;
    }
    return was;
  }

  private int send(int a, int what, int v) {
    int[] least = {0, -1, 0};
    int[] most = {4095, town.sills.size() - 1, 9999};
    if (!isOne(a) || !in(what, 0, 2) || !in(v, least[what], most[what])) {
      return beyond();
    }
    One p = town.people.get(a);
    int was = ofOne(p, what);
    if (what == 0) {
      p.has = v;
    } else if (what == 1) {
      p.in = v;
    } else {
      p.crossed = v;
    }
    return was;
  }

  private int now(int what) {
    int had = 0;
    int keptSet = 0;
    int inside = 0;
    int mute = 0;
    int wear = 0;
    int keptAll = 0;
    for (int i = 0; i < town.people.size(); i++) {
      had |= town.people.get(i).has;
      inside |= town.people.get(i).in >= 0 ? 1 << i : 0;
      mute |= town.people.get(i).words().isEmpty() ? 1 << i : 0;
    }
    for (Sill s : town.sills) {
      keptSet |= s.set();
      wear += s.wear;
      keptAll += s.keeps.size();
    }
    int[] all = {town.day, town.lost, had, keptSet, inside, mute, wear, keptAll};
    return all[what];
  }

  private long dayCall(int which, int a, int b, int c) {
    switch (which) {
      case 12:
        if (!in(a, 1, 60)) {
          return beyond();
        }
        if (town.day + a > 99999) {
          return tell(Due.STATE);
        }
        return town.days(a).lost;
      case 13:
        return in(a, 0, 7) ? now(a) : beyond();
      case 14:
        boolean known = b == 1 || b == 2 || b == 5 || b == 6;
        return isSill(a) && known && in(c, 0, 100) ? of(new Town(town).days(c).sills.get(a), b) : beyond();
      case 15:
        return isOne(a) && in(b, 0, 2) && in(c, 0, 100) ? ofOne(new Town(town).days(c).people.get(a), b) : beyond();
      case 16:
        if (!isOne(a) || !in(b, 0, 11)) {
          return beyond();
        }
        for (int n = 0; n <= 200; n++) {
          if (new Town(town).days(n).people.get(a).hasWord(b)) {
            return n;
          }
        }
        return tell(Due.NONE);
      case 17:
        if (!in(a, 0, 99999)) {
          return beyond();
        }
        for (int n = 0; n <= 200; n++) {
          if (new Town(town).days(n).lost >= a) {
            return n;
          }
        }
        return tell(Due.NONE);
      default:
        if (!isOne(a)) {
          return beyond();
        }
        for (int n = 0; n <= 200; n++) {
          if (new Town(town).days(n).people.get(a).words().isEmpty()) {
            return n;
          }
        }
        return tell(Due.NONE);
    }
  }

  private long planCall(int which, int a, int b, int c) {
    switch (which) {
      case 19:
        if (!in(a, 0, 5) || !in(b, 0, 60)) {
          return beyond();
        }
        int[] losses = new int[8];
        for (int s = 0; s < 8; s++) {
          Town t = new Town(town);
          t.list[a] = town.list[a] - town.list[a] % 10 + s;
          losses[s] = t.days(b).lost;
        }
        return leastPlace(losses);
      case 20:
        if (!isSill(a) || !in(b, 0, 60)) {
          return beyond();
        }
        int[] lossesOf = new int[7];
        for (int k = 0; k < 7; k++) {
          Town t = new Town(town);
          t.sills.get(a).kind = k;
          lossesOf[k] = t.days(b).lost;
        }
        return leastPlace(lossesOf);
      case 21:
        return wordFor(a, b, c);
      case 22:
        return mend(a, b, c);
      case 23:
        return seek(a, b);
      case 24:
        return fits(a, b);
      default:
        return kinds(a, b);
    }
  }

  private static int leastPlace(int[] row) {
    int best = 0;
    for (int i = 1; i < row.length; i++) {
      if (row[i] < row[best]) {
        best = i;
      }
    }
    return best;
  }

  private int wordFor(int from, int to, int n) {
    if (!isOne(from) || !isOne(to) || from == to || !in(n, 0, 60)) {
      return beyond();
    }
    for (int w = 0; w < 12; w++) {
      Town t = new Town(town);
      t.people.get(from).has = 1 << w;
      if (t.days(n).people.get(to).hasWord(w) && !town.people.get(to).hasWord(w)) {
        return w;
      }
    }
    return tell(Due.NONE);
  }

  private int mend(int person, int word, int n) {
    if (!isOne(person) || !in(word, 0, 11) || !in(n, 0, 20)) {
      return beyond();
    }
    int best = -1;
    for (int set = 0; set < 1 << town.sills.size(); set++) {
      Town t = new Town(town);
      for (int s = 0; s < t.sills.size(); s++) {
        t.sills.get(s).mended |= (set & 1 << s) != 0;
      }
      boolean does = !t.days(n).people.get(person).hasWord(word);
      if (does && (best < 0 || Integer.bitCount(set) < Integer.bitCount(best))) {
        best = set;
      }
    }
    return best < 0 ? tell(Due.NONE) : best;
  }

  private int seek(int person, int word) {
    if (!isOne(person) || !in(word, 0, 11)) {
      return beyond();
    }
    if (town.people.get(person).in != -1 || town.people.get(person).hasWord(word)) {
      return tell(Due.STATE);
    }
    Town t = new Town(town);
    for (int s = 0; s < t.sills.size(); s++) {
      if (!t.sills.get(s).mended) {
        t.crossing(person, s);
        t.crossing(person, s);
        if (t.people.get(person).hasWord(word)) {
          return s;
        }
      }
    }
    return tell(Due.NONE);
  }

  /** The finding of a sheet, or 0. */
  private int sheetFinding(int s) {
    return !in(s, 0, 3) ? Due.BEYOND : sheets[s] == null ? Due.MISSING : 0;
  }

  private int fits(int s, int person) {
    if (sheetFinding(s) != 0) {
      return tell(sheetFinding(s));
    }
    if (!isOne(person)) {
      return beyond();
    }
    int fit = 0;
    for (int crossing = 0; crossing < 60; crossing++) {
      if (crossing % 10 < 8) {
        boolean all = true;
        for (int i = 0; i < sheets[s].length; i++) {
          Town t = new Town(town);
          t.list[t.day % 6] = crossing;
          all &= sheets[s][i] == -1 || sheets[s][i] == t.days(i).people.get(person).has;
        }
        fit += all ? 1 : 0;
      }
    }
    return fit;
  }

  private int kinds(int s, int sill) {
    if (sheetFinding(s) != 0) {
      return tell(sheetFinding(s));
    }
    if (!isSill(sill)) {
      return beyond();
    }
    int set = 0;
    for (int k = 0; k < 7; k++) {
      boolean all = true;
      for (int i = 0; i < sheets[s].length; i++) {
        Town t = new Town(town);
        t.sills.get(sill).kind = k;
        all &= sheets[s][i] == -1 || sheets[s][i] == t.days(i).sills.get(sill).keeps.size();
      }
      set += all ? 1 << k : 0;
    }
    return set;
  }

  private long tapeCall(int which, int a, int b, int c) {
    switch (which) {
      case 26:
        if (!in(a, 1, 20)) {
          return beyond();
        }
        if (town.day + a > 99999) {
          return tell(Due.STATE);
        }
        for (int i = 0; i < a; i++) {
          int first = town.draw() % 6;
          int second = town.draw() % 8;
          town.list[town.day % 6] = 10 * first + second;
          town.days(1);
        }
        return town.lost;
      case 27:
        if (!isOne(a) || !in(b, 0, 17) || !in(c, 0, 1)) {
          return beyond();
        }
        java.math.BigInteger up = java.math.BigInteger.valueOf(town.people.get(a).words().size()).pow(b);
        java.math.BigInteger low = java.math.BigInteger.valueOf(12).pow(b);
        return (c == 0 ? up : low).divide(up.gcd(low)).longValueExact();
      case 28:
        int z = town.z;
        town.z = a;
        return z;
      case 29:
        if (!in(b, 1, 4)) {
          return beyond();
        }
        if (tape.length() + b > 120) {
          return tell(Due.FULL);
        }
        for (int i = b - 1; i >= 0; i--) {
          tape += (char) (a >> 8 * i & 255);
        }
        return tape.length();
      case 30:
        int had = tape.length();
        tape = "";
        return had;
      default:
        int answer = text();
        tape = "";
        return answer;
    }
  }

  private static final Pattern TOKEN = Pattern.compile(" *([a-z]+|[0-9]+|;|\\z|.)", Pattern.DOTALL);
  private static final List<String> KINDS = List.of("sill", "church", "saloon", "poor", "inn", "bare", "marble");

  /** By a table of states: what may stand next, told as the state behind it. */
  private int text() {
    Town t = new Town(town);
    int items = 0;
    String state = "item";
    Matcher m = TOKEN.matcher(tape);
    int at = 0;
    int[] told = new int[3];
    while (true) {
      m.region(at, tape.length());
      if (!m.lookingAt()) {
        throw new IllegalStateException(tape);
      }
      String token = m.group(1);
      int place = m.start(1);
      at = m.end(1);
      boolean number = token.matches("[0-9]+");
      java.math.BigInteger big = number ? new java.math.BigInteger(token) : java.math.BigInteger.ZERO;
      int v = number ? big.min(java.math.BigInteger.valueOf(10000)).intValue() : -1;
      boolean atItemsEnd = List.of("sill", "kept", "mended", "person", "has+", "in+", "cross3").contains(state);
      Sill s = t.sills.isEmpty() ? null : t.sills.get(t.sills.size() - 1);
      One p = t.people.isEmpty() ? null : t.people.get(t.people.size() - 1);
      if (atItemsEnd && (token.equals(";") || token.isEmpty())) {
        if (state.equals("cross3")) {
          t.list[told[0]] = 10 * told[1] + told[2];
        }
        items++;
        if (token.isEmpty()) {
          town = t;
          return items;
        }
        state = "item";
      } else if (state.equals("item") && KINDS.contains(token) && t.sills.size() < 8) {
        t.sills.add(new Sill(KINDS.indexOf(token)));
        state = "sill";
      } else if (state.equals("item") && token.equals("person") && t.people.size() < 6) {
        t.people.add(new One(0));
        state = "person";
      } else if (state.equals("item") && token.equals("cross")) {
        state = "cross0";
      } else if (state.equals("sill") && token.equals("keeps")) {
        state = "keeps";
      } else if ((state.equals("keeps") || state.equals("kept") && s.keeps.size() < 5) && in(v, 0, 11)) {
        s.keeps.add(v);
        state = "kept";
      } else if ((state.equals("sill") || state.equals("kept")) && token.equals("mended")) {
        s.mended = true;
        state = "mended";
      } else if (state.equals("person") && token.equals("has")) {
        state = "has";
      } else if (state.equals("has") && in(v, 0, 4095)) {
        p.has = v;
        state = "has+";
      } else if ((state.equals("person") || state.equals("has+")) && token.equals("in")) {
        state = "in";
      } else if (state.equals("in") && in(v, 0, t.sills.size() - 1)) {
        p.in = v;
        state = "in+";
      } else if (state.equals("cross0") && in(v, 0, 5) || state.equals("cross1") && in(v, 0, 5)
          || state.equals("cross2") && in(v, 0, 7)) {
        int i = state.charAt(5) - '0';
        told[i] = v;
        state = "cross" + (i + 1);
      } else {
        return -1 - place;
      }
    }
  }

  private long sheetCall(int which, int a, int b, int c, int d, int e) {
    switch (which) {
      case 32:
        if (!in(a, 0, 9) || !in(b, -1, town.sills.size() - 1)) {
          return beyond();
        }
        town.spots[a] = b;
        return 1;
      case 33:
        return as(a, b);
      case 34:
        if (!in(a, 0, 3) || b != 0 && b != 8 && b != 16 && b != 32) {
          return beyond();
        }
        if (c < 0) {
          return tell(Due.SIZE);
        }
        if (c > 40) {
          return beyond();
        }
        sheets[a] = b == 0 ? null : new int[c];
        bits[a] = b;
        return b == 0 ? 0 : c;
      case 35:
        if (sheetFinding(a) != 0) {
          return tell(sheetFinding(a));
        }
        if (!in(b, 0, sheets[a].length - 1)) {
          return beyond();
        }
        sheets[a][b] = c << 32 - bits[a] >> 32 - bits[a];
        return 1;
      case 36:
        return copy(a, b, c, d, e);
      case 37:
        return load(a);
      case 38:
        if (sheetFinding(a) != 0) {
          return tell(sheetFinding(a));
        }
        for (int i = 0; i < sheets[a].length; i++) {
          List<Integer> row = town.sills.isEmpty() ? List.of() : town.sills.get(0).keeps;
          if (i >= row.size() || row.get(i) != sheets[a][i]) {
            return 1 + i;
          }
        }
        return 0;
      default:
        return imageCall(which, a);
    }
  }

  private int as(int spot, int kind) {
    int[] above = {-1, 0, 0, 2, 3, 0, 1};
    if (!in(spot, 0, 9) || !in(kind, 0, 6)) {
      return beyond();
    }
    if (town.spots[spot] < 0) {
      return tell(Due.MISSING);
    }
    for (int k = town.sills.get(town.spots[spot]).kind; k >= 0; k = above[k]) {
      if (k == kind) {
        return town.spots[spot];
      }
    }
    return tell(Due.KIND);
  }

  private int copy(int s, int from, int t, int to, int n) {
    if (!in(s, 0, 3) || !in(t, 0, 3)) {
      return beyond();
    }
    if (sheets[s] == null || sheets[t] == null) {
      return tell(Due.MISSING);
    }
    if (bits[s] != bits[t]) {
      return tell(Due.KIND);
    }
    if (from < 0 || to < 0 || n < 0 || (long) from + n > sheets[s].length || (long) to + n > sheets[t].length) {
      return beyond();
    }
    int[] were = sheets[s].clone();
    for (int i = 0; i < n; i++) {
      sheets[t][to + i] = were[from + i];
    }
    return n;
  }

  private int load(int s) {
    if (sheetFinding(s) != 0) {
      return tell(sheetFinding(s));
    }
    int came = 0;
    while (came < sheets[s].length && in(sheets[s][came], 0, 4095) && came < town.people.size()) {
      town.people.get(came).has = sheets[s][came];
      came++;
    }
    return came;
  }

  private long imageCall(int which, int a) {
    switch (which) {
      case 39:
        kept = new Town(town);
        return 1;
      case 40:
        if (kept == null) {
          return tell(Due.NONE);
        }
        town = new Town(kept);
        return town.day;
      case 41:
        int had = kept == null ? 0 : 1;
        kept = null;
        return had;
      case 42:
        if (!in(a, 0, 7)) {
          return beyond();
        }
        int held = 0;
        for (int spot : town.spots) {
          held += spot >= 0 ? 1 : 0;
        }
        int[] all = {town.day, town.sills.size(), town.people.size(), town.lost, now(7), tape.length(), town.z, held};
        return all[a];
      default:
        if (!in(a, -1, 6)) {
          return beyond();
        }
        int sum = 0;
        for (int f : found) {
          sum += f;
        }
        return a == -1 ? sum : found[a];
    }
  }
}
