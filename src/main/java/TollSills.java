/** An old quarter whose doorsills take words, keep them and give them on. */
public final class TollSills {
  private static final int LOW = -1000001;
  private static final int BEYOND = 0;
  private static final int FULL = 1;
  private static final int KIND = 2;
  private static final int NONE = 3;
  private static final int STATE = 4;
  private static final int MISSING = 5;
  private static final int SIZE = 6;
  private static final int FINDINGS = 7;

  private static final int NOTHING = -1;
  private static final int WORDS = 12;
  private static final int MOST_WORDS_SET = 4095;
  private static final int MOST_SILLS = 8;
  private static final int MOST_PEOPLE = 6;
  private static final int MOST_KEPT = 5;
  private static final int LIST_PLACES = 6;
  private static final int MOST_COUNTED = 9999;
  private static final int MOST_DAYS = 99999;
  private static final int MOST_LOST = 99999;
  private static final int SPOTS = 10;
  private static final int SHEETS = 4;
  private static final int SHEET_NUMBERS = 40;
  private static final int TAPE_BYTES = 120;

  private static final int FARTHEST_LOOK = 100;
  private static final int FARTHEST_WAIT = 200;
  private static final int FARTHEST_PLAN = 60;
  private static final int FARTHEST_MEND = 20;
  private static final int MOST_STROLLS = 20;
  private static final int MOST_ODDS = 17;

  private final Quarter quarter = new Quarter();
  private final Quarter trial = new Quarter();
  private final Quarter keptImage = new Quarter();
  private boolean imageIsKept = false;
  private final Tape tape = new Tape();
  private final Sheets sheets = new Sheets();
  private final int[] found = new int[FINDINGS];

  /** Makes a quarter with no sills and no people. */
  public TollSills() {
  }

  // ---- quarter

  /** Puts a crossing in a place of the list: which stood there. */
  public int list(int i, int person, int sill) {
    if (!isBelow(i, LIST_PLACES) || !isBelow(person, MOST_PEOPLE) || !isBelow(sill, MOST_SILLS)) {
      return tell(BEYOND);
    }
    int was = quarter.crossings[i];
    quarter.crossings[i] = 10 * person + sill;
    return was;
  }

  /** The crossing in a place of the list. */
  public int listed(int i) {
    return isBelow(i, LIST_PLACES) ? quarter.crossings[i] : tell(BEYOND);
  }

  /** A new sill: its number. */
  public int sill(int kind) {
    if (!isBelow(kind, Kinds.COUNT)) {
      return tell(BEYOND);
    }
    int number = quarter.addSill(kind);
    return number == NOTHING ? tell(FULL) : number;
  }

  /** A new one who has a set of words: the number. */
  public int person(int words) {
    if (!isWithin(words, 0, MOST_WORDS_SET)) {
      return tell(BEYOND);
    }
    int number = quarter.addPerson(words);
    return number == NOTHING ? tell(FULL) : number;
  }

  /** What is so of a sill. */
  public int of(int sill, int what) {
    if (!quarter.isSill(sill) || !isWithin(what, 0, 6)) {
      return tell(BEYOND);
    }
    return quarter.tellSill(sill, what);
  }

  /** The word that a sill keeps in a place. */
  public int word(int sill, int i) {
    if (!quarter.isSill(sill) || i < 0) {
      return tell(BEYOND);
    }
    int word = quarter.keptAt(sill, i);
    return word == NOTHING ? tell(NONE) : word;
  }

  /** Changes kind, wear or mended of a sill: what it was. */
  public int change(int sill, int what, int v) {
    if (!quarter.isSill(sill)) {
      return tell(BEYOND);
    }
    switch (what) {
      case 0:
        return isBelow(v, Kinds.COUNT) ? replace(quarter.kindOf, sill, v) : tell(BEYOND);
      case 2:
        return isWithin(v, 0, MOST_COUNTED) ? replace(quarter.wearOf, sill, v) : tell(BEYOND);
      case 3:
        return isWithin(v, 0, 1) ? replace(quarter.mendedOf, sill, v) : tell(BEYOND);
      default:
        return tell(BEYOND);
    }
  }

  /** A sill keeps a word behind all others: how many then. */
  public int lay(int sill, int word) {
    if (!quarter.isSill(sill) || !isBelow(word, WORDS)) {
      return tell(BEYOND);
    }
    return quarter.keep(sill, word) ? quarter.keptBy[sill] : tell(FULL);
  }

  /** What is so of one. */
  public int ofPerson(int person, int what) {
    if (!quarter.isPerson(person) || !isWithin(what, 0, 2)) {
      return tell(BEYOND);
    }
    return quarter.tellPerson(person, what);
  }

  /** Changes what one has, where one is or how often one crossed: what it was. */
  public int send(int person, int what, int v) {
    if (!quarter.isPerson(person)) {
      return tell(BEYOND);
    }
    switch (what) {
      case 0:
        return isWithin(v, 0, MOST_WORDS_SET) ? replace(quarter.has, person, v) : tell(BEYOND);
      case 1:
        return v == NOTHING || quarter.isSill(v) ? replace(quarter.in, person, v) : tell(BEYOND);
      case 2:
        return isWithin(v, 0, MOST_COUNTED) ? replace(quarter.crossed, person, v) : tell(BEYOND);
      default:
        return tell(BEYOND);
    }
  }

  /** Which word a sill would take of one who has a set. */
  public int takes(int sill, int words) {
    if (!quarter.isSill(sill) || !isWithin(words, 0, MOST_WORDS_SET)) {
      return tell(BEYOND);
    }
    int word = Kinds.wordTaken(quarter.kindOf[sill], words, quarter.keptSet(sill));
    return word == NOTHING ? tell(NONE) : word;
  }

  /** One crosses a sill besides the list: the word taken or given. */
  public int cross(int person, int sill) {
    if (!quarter.isPerson(person) || !quarter.isSill(sill)) {
      return tell(BEYOND);
    }
    return quarter.mayCross(person, sill) ? quarter.makeCrossing(person, sill) : tell(STATE);
  }

  // ---- days

  /** Some days go by: how many words are lost then. */
  public int go(int n) {
    if (!isWithin(n, 1, FARTHEST_PLAN)) {
      return tell(BEYOND);
    }
    if (quarter.day + n > MOST_DAYS) {
      return tell(STATE);
    }
    quarter.passDays(n);
    return quarter.lost;
  }

  /** What is so of the whole quarter. */
  public int now(int what) {
    switch (what) {
      case 0:
        return quarter.day;
      case 1:
        return quarter.lost;
      case 2:
        return quarter.wordsHad();
      case 3:
        return quarter.wordsKept();
      case 4:
        return quarter.peopleInside();
      case 5:
        return quarter.peopleWithoutWords();
      case 6:
        return quarter.wearOfAll();
      case 7:
        return quarter.keptInAll();
      default:
        return tell(BEYOND);
    }
  }

  // ---- what will be (nothing changes)

  /** What will be so of a sill behind some days. */
  public int ahead(int sill, int what, int n) {
    boolean told = what == 1 || what == 2 || what == 5 || what == 6;
    if (!quarter.isSill(sill) || !told || !isWithin(n, 0, FARTHEST_LOOK)) {
      return tell(BEYOND);
    }
    beginTrial();
    trial.passDays(n);
    return trial.tellSill(sill, what);
  }

  /** What will be so of one behind some days. */
  public int later(int person, int what, int n) {
    if (!quarter.isPerson(person) || !isWithin(what, 0, 2) || !isWithin(n, 0, FARTHEST_LOOK)) {
      return tell(BEYOND);
    }
    beginTrial();
    trial.passDays(n);
    return trial.tellPerson(person, what);
  }

  /** Behind how many days one has a word. */
  public int hears(int person, int word) {
    if (!quarter.isPerson(person) || !isBelow(word, WORDS)) {
      return tell(BEYOND);
    }
    beginTrial();
    for (int n = 0; n <= FARTHEST_WAIT; n++) {
      if (trial.hasWord(person, word)) {
        return n;
      }
      trial.passDays(1);
    }
    return tell(NONE);
  }

  /** Behind how many days so many words are lost. */
  public int waste(int v) {
    if (!isWithin(v, 0, MOST_LOST)) {
      return tell(BEYOND);
    }
    beginTrial();
    for (int n = 0; n <= FARTHEST_WAIT; n++) {
      if (trial.lost >= v) {
        return n;
      }
      trial.passDays(1);
    }
    return tell(NONE);
  }

  /** Behind how many days one has no word. */
  public int mute(int person) {
    if (!quarter.isPerson(person)) {
      return tell(BEYOND);
    }
    beginTrial();
    for (int n = 0; n <= FARTHEST_WAIT; n++) {
      if (trial.has[person] == 0) {
        return n;
      }
      trial.passDays(1);
    }
    return tell(NONE);
  }

  // ---- whom to send

  /** The sill that a place of the list must tell, so that fewest words are lost. */
  public int sillFor(int i, int n) {
    if (!isBelow(i, LIST_PLACES) || !isWithin(n, 0, FARTHEST_PLAN)) {
      return tell(BEYOND);
    }
    int one = quarter.crossings[i] / 10;
    int best = 0;
    int fewest = MOST_LOST + 1;
    for (int sill = 0; sill < MOST_SILLS; sill++) {
      beginTrial();
      trial.crossings[i] = 10 * one + sill;
      trial.passDays(n);
      if (trial.lost < fewest) {
        fewest = trial.lost;
        best = sill;
      }
    }
    return best;
  }

  /** The kind that a sill must be of, so that fewest words are lost. */
  public int kindFor(int sill, int n) {
    if (!quarter.isSill(sill) || !isWithin(n, 0, FARTHEST_PLAN)) {
      return tell(BEYOND);
    }
    int best = 0;
    int fewest = MOST_LOST + 1;
    for (int kind = 0; kind < Kinds.COUNT; kind++) {
      beginTrial();
      trial.kindOf[sill] = kind;
      trial.passDays(n);
      if (trial.lost < fewest) {
        fewest = trial.lost;
        best = kind;
      }
    }
    return best;
  }

  /** The word that one must have alone, so that another one comes to have it. */
  public int wordFor(int from, int to, int n) {
    if (!quarter.isPerson(from) || !quarter.isPerson(to) || from == to || !isWithin(n, 0, FARTHEST_PLAN)) {
      return tell(BEYOND);
    }
    for (int word = 0; word < WORDS; word++) {
      if (!quarter.hasWord(to, word)) {
        beginTrial();
        trial.has[from] = 1 << word;
        trial.passDays(n);
        if (trial.hasWord(to, word)) {
          return word;
        }
      }
    }
    return tell(NONE);
  }

  /** The fewest sills to mend, so that one hasn't a word behind some days. */
  public int mend(int person, int word, int n) {
    if (!quarter.isPerson(person) || !isBelow(word, WORDS) || !isWithin(n, 0, FARTHEST_MEND)) {
      return tell(BEYOND);
    }
    int sets = 1 << quarter.sills;
    for (int fewest = 0; fewest <= quarter.sills; fewest++) {
      for (int set = 0; set < sets; set++) {
        if (Integer.bitCount(set) == fewest && !hasWhenMended(person, word, n, set)) {
          return set;
        }
      }
    }
    return tell(NONE);
  }

  /** The sill behind which one has a word first, who crosses all in turn. */
  public int seek(int person, int word) {
    if (!quarter.isPerson(person) || !isBelow(word, WORDS)) {
      return tell(BEYOND);
    }
    if (quarter.in[person] != NOTHING || quarter.hasWord(person, word)) {
      return tell(STATE);
    }
    beginTrial();
    for (int sill = 0; sill < trial.sills; sill++) {
      trial.makeCrossing(person, sill);
      trial.makeCrossing(person, sill);
      if (trial.hasWord(person, word)) {
        return sill;
      }
    }
    return tell(NONE);
  }

  // ---- told words

  /** How many crossings today's place could tell, by what one has. */
  public int fits(int s, int person) {
    if (!isBelow(s, SHEETS)) {
      return tell(BEYOND);
    }
    if (sheets.isMissing(s)) {
      return tell(MISSING);
    }
    if (!quarter.isPerson(person)) {
      return tell(BEYOND);
    }
    int today = quarter.placeOfToday();
    int fitting = 0;
    for (int one = 0; one < MOST_PEOPLE; one++) {
      for (int sill = 0; sill < MOST_SILLS; sill++) {
        beginTrial();
        trial.crossings[today] = 10 * one + sill;
        if (hasAsTold(s, person)) {
          fitting++;
        }
      }
    }
    return fitting;
  }

  /** The kinds that a sill could be of, by how many words it keeps. */
  public int kinds(int s, int sill) {
    if (!isBelow(s, SHEETS)) {
      return tell(BEYOND);
    }
    if (sheets.isMissing(s)) {
      return tell(MISSING);
    }
    if (!quarter.isSill(sill)) {
      return tell(BEYOND);
    }
    int set = 0;
    for (int kind = 0; kind < Kinds.COUNT; kind++) {
      beginTrial();
      trial.kindOf[sill] = kind;
      if (keepsAsTold(s, sill)) {
        set |= 1 << kind;
      }
    }
    return set;
  }

  // ---- days by draws

  /** Some days whose crossings are drawn: how many words are lost then. */
  public int stroll(int n) {
    if (!isWithin(n, 1, MOST_STROLLS)) {
      return tell(BEYOND);
    }
    if (quarter.day + n > MOST_DAYS) {
      return tell(STATE);
    }
    for (int i = 0; i < n; i++) {
      int one = quarter.draw() % MOST_PEOPLE;
      int sill = quarter.draw() % MOST_SILLS;
      quarter.crossings[quarter.placeOfToday()] = 10 * one + sill;
      quarter.passDays(1);
    }
    return quarter.lost;
  }

  /** The odds that drawn words are all such as one has. */
  public long odds(int person, int n, int what) {
    if (!quarter.isPerson(person) || !isWithin(n, 0, MOST_ODDS) || !isWithin(what, 0, 1)) {
      return tell(BEYOND);
    }
    int hers = Integer.bitCount(quarter.has[person]);
    // Powers of two numbers with no common divisor have none either.
    int common = commonDivisor(hers, WORDS);
    return power((what == 0 ? hers : WORDS) / common, n);
  }

  /** The number that draws are made of becomes v: what it was. */
  public int seed(int v) {
    int was = quarter.z;
    quarter.z = v;
    return was;
  }

  // ---- texts

  /** The tape gets the lowest bytes of a number: how many it has. */
  public int feed(int bytes, int n) {
    if (!isWithin(n, 1, 4)) {
      return tell(BEYOND);
    }
    return tape.append(bytes, n) ? tape.size : tell(FULL);
  }

  /** Empties the tape: how many bytes it had. */
  public int wipe() {
    int had = tape.size;
    tape.size = 0;
    return had;
  }

  /** Reads the tape as a text: how many items, or -1 less the fault. */
  public int text() {
    // Items are told to the trial, so that a fault leaves the quarter as it was.
    beginTrial();
    int items = tape.readItems(trial);
    if (items >= 0) {
      quarter.become(trial);
    }
    tape.size = 0;
    return items;
  }

  // ---- spots, sheets

  /** A spot holds a sill or nothing. */
  public int hold(int spot, int sill) {
    if (!isBelow(spot, SPOTS) || sill != NOTHING && !quarter.isSill(sill)) {
      return tell(BEYOND);
    }
    quarter.spots[spot] = sill;
    return 1;
  }

  /** What a spot holds, as one of a kind. */
  public int as(int spot, int kind) {
    if (!isBelow(spot, SPOTS) || !isBelow(kind, Kinds.COUNT)) {
      return tell(BEYOND);
    }
    int sill = quarter.spots[spot];
    if (!quarter.isSill(sill)) {
      return tell(MISSING);
    }
    return Kinds.isUnder(quarter.kindOf[sill], kind) ? sill : tell(KIND);
  }

  /** Lays out a sheet, or takes it away. */
  public int sheet(int s, int bits, int n) {
    boolean known = bits == 0 || bits == 8 || bits == 16 || bits == 32;
    if (!isBelow(s, SHEETS) || !known) {
      return tell(BEYOND);
    }
    if (n < 0) {
      return tell(SIZE);
    }
    if (n > SHEET_NUMBERS) {
      return tell(BEYOND);
    }
    sheets.layOut(s, bits, bits == 0 ? 0 : n);
    return sheets.sizes[s];
  }

  /** A number of a sheet becomes v. */
  public int write(int s, int i, int v) {
    if (!isBelow(s, SHEETS)) {
      return tell(BEYOND);
    }
    if (sheets.isMissing(s)) {
      return tell(MISSING);
    }
    if (!isBelow(i, sheets.sizes[s])) {
      return tell(BEYOND);
    }
    sheets.put(s, i, v);
    return 1;
  }

  /** Numbers of a sheet come to another one: how many. */
  public int copy(int s, int from, int t, int to, int n) {
    if (!isBelow(s, SHEETS) || !isBelow(t, SHEETS)) {
      return tell(BEYOND);
    }
    if (sheets.isMissing(s) || sheets.isMissing(t)) {
      return tell(MISSING);
    }
    if (sheets.bits[s] != sheets.bits[t]) {
      return tell(KIND);
    }
    if (!sheets.hasRange(s, from, n) || !sheets.hasRange(t, to, n)) {
      return tell(BEYOND);
    }
    sheets.move(s, from, t, to, n);
    return n;
  }

  /** Numbers of a sheet become what people have: how many came. */
  public int load(int s) {
    if (!isBelow(s, SHEETS)) {
      return tell(BEYOND);
    }
    if (sheets.isMissing(s)) {
      return tell(MISSING);
    }
    int most = Math.min(sheets.sizes[s], quarter.people);
    for (int i = 0; i < most; i++) {
      int words = sheets.numberAt(s, i);
      if (!isWithin(words, 0, MOST_WORDS_SET)) {
        return i;
      }
      quarter.has[i] = words;
    }
    return most;
  }

  /** Whether a sheet tells the words that sill 0 keeps: 0, or 1 and the first wrong place. */
  public int judge(int s) {
    if (!isBelow(s, SHEETS)) {
      return tell(BEYOND);
    }
    if (sheets.isMissing(s)) {
      return tell(MISSING);
    }
    for (int i = 0; i < sheets.sizes[s]; i++) {
      int word = quarter.keptAt(0, i);
      if (word == NOTHING || word != sheets.numberAt(s, i)) {
        return 1 + i;
      }
    }
    return 0;
  }

  // ---- images

  /** Keeps all but tape and sheets. */
  public int image() {
    keptImage.become(quarter);
    imageIsKept = true;
    return 1;
  }

  /** All becomes what was kept latest: the day. */
  public int undo() {
    if (!imageIsKept) {
      return tell(NONE);
    }
    quarter.become(keptImage);
    return quarter.day;
  }

  /** Forgets what was kept: 1 if something was. */
  public int tear() {
    int had = imageIsKept ? 1 : 0;
    imageIsKept = false;
    return had;
  }

  /** How many there are of something. */
  public int count(int what) {
    switch (what) {
      case 0:
        return quarter.day;
      case 1:
        return quarter.sills;
      case 2:
        return quarter.people;
      case 3:
        return quarter.lost;
      case 4:
        return quarter.keptInAll();
      case 5:
        return tape.size;
      case 6:
        return quarter.z;
      case 7:
        return quarter.spotsInUse();
      default:
        return tell(BEYOND);
    }
  }

  /** How many acts answered a finding. */
  public int status(int which) {
    if (which == -1) {
      int all = 0;
      for (int i = 0; i < FINDINGS; i++) {
        all += found[i];
      }
      return all;
    }
    return isBelow(which, FINDINGS) ? found[which] : tell(BEYOND);
  }

  // ---- helpers

  private int tell(int finding) {
    if (isBelow(finding, FINDINGS)) {
      found[finding]++;
    }
    return LOW - finding;
  }

  private static boolean isWithin(int v, int least, int most) {
    return v >= least && v <= most;
  }

  private static boolean isBelow(int v, int bound) {
    return v >= 0 && v < bound;
  }

  private static int replace(int[] row, int i, int v) {
    if (!isBelow(i, row.length)) {
      return NOTHING;
    }
    int was = row[i];
    row[i] = v;
    return was;
  }

  // One trial serves all calls, since a run's room for new objects is small.
  private void beginTrial() {
    trial.become(quarter);
  }

  private boolean hasWhenMended(int person, int word, int n, int set) {
    beginTrial();
    for (int sill = 0; sill < trial.sills; sill++) {
      if ((set >> sill & 1) != 0) {
        trial.mendedOf[sill] = 1;
      }
    }
    trial.passDays(n);
    return trial.hasWord(person, word);
  }

  private boolean hasAsTold(int s, int person) {
    for (int i = 0; i < sheets.sizes[s]; i++) {
      if (i > 0) {
        trial.passDays(1);
      }
      if (!sheets.admits(s, i, trial.has[person])) {
        return false;
      }
    }
    return true;
  }

  private boolean keepsAsTold(int s, int sill) {
    for (int i = 0; i < sheets.sizes[s]; i++) {
      if (i > 0) {
        trial.passDays(1);
      }
      if (!sheets.admits(s, i, trial.keptBy[sill])) {
        return false;
      }
    }
    return true;
  }

  private static int commonDivisor(int a, int b) {
    for (int divisor = b; divisor > 1; divisor--) {
      if (a % divisor == 0 && b % divisor == 0) {
        return divisor;
      }
    }
    return 1;
  }

  private static long power(int base, int n) {
    long product = 1;
    for (int i = 0; i < n; i++) {
      product *= base;
    }
    return product;
  }

  /** What the kinds of sills do. */
  private static final class Kinds {
    static final int SILL = 0;
    static final int CHURCH = 1;
    static final int SALOON = 2;
    static final int POOR = 3;
    static final int INN = 4;
    static final int BARE = 5;
    static final int MARBLE = 6;
    static final int COUNT = 7;

    private static final int EVEN_WORDS = 0x555;

    private Kinds() {
    }

    static boolean isUnder(int kind, int above) {
      int at = kind;
      // No kind is deeper than all kinds in a chain.
      for (int step = 0; step < COUNT && at != NOTHING; step++) {
        if (at == above) {
          return true;
        }
        at = parentOf(at);
      }
      return false;
    }

    private static int parentOf(int kind) {
      switch (kind) {
        case CHURCH:
        case SALOON:
        case BARE:
          return SILL;
        case POOR:
          return SALOON;
        case INN:
          return POOR;
        case MARBLE:
          return CHURCH;
        default:
          return NOTHING;
      }
    }

    static int kindNamed(Tape tape) {
      for (int kind = 0; kind < COUNT; kind++) {
        if (tape.isWord(nameOf(kind))) {
          return kind;
        }
      }
      return NOTHING;
    }

    private static String nameOf(int kind) {
      switch (kind) {
        case CHURCH:
          return "church";
        case SALOON:
          return "saloon";
        case POOR:
          return "poor";
        case INN:
          return "inn";
        case BARE:
          return "bare";
        case MARBLE:
          return "marble";
        default:
          return "sill";
      }
    }

    static int mostHeld(int kind) {
      switch (kind) {
        case CHURCH:
          return 4;
        case SALOON:
          return 5;
        case POOR:
          return 4;
        case INN:
          return 2;
        case MARBLE:
          return 0;
        default:
          return 3;
      }
    }

    static int wordTaken(int kind, int words, int kept) {
      int greatest = greatest(words);
      int even = greatest(words & EVEN_WORDS);
      int poors = even == NOTHING ? greatest : even;
      switch (kind) {
        case CHURCH:
        case MARBLE:
          return least(words);
        case SALOON:
          return even;
        case POOR:
          return poors;
        case INN:
          return poors != NOTHING && (kept >> poors & 1) != 0 ? NOTHING : poors;
        default:
          return greatest;
      }
    }

    private static int least(int words) {
      for (int word = 0; word < WORDS; word++) {
        if ((words >> word & 1) != 0) {
          return word;
        }
      }
      return NOTHING;
    }

    private static int greatest(int words) {
      for (int word = WORDS - 1; word >= 0; word--) {
        if ((words >> word & 1) != 0) {
          return word;
        }
      }
      return NOTHING;
    }

    /** The place that a row of so many words gives from. */
    static int placeGiven(int kind, int kept, int wear) {
      if (kept <= 0) {
        return NOTHING;
      }
      switch (kind) {
        case SALOON:
          return kept - 1;
        case POOR:
        case INN:
          return wear % 3 == 0 ? 0 : kept - 1;
        case BARE:
          return NOTHING;
        default:
          return 0;
      }
    }
  }

  /** All that an image keeps: sills, people, the list, days, draws, spots. */
  private static final class Quarter {
    final int[] crossings = new int[LIST_PLACES];
    int lost = 0;
    int day = 0;
    int z = 1;
    int sills = 0;
    final int[] kindOf = new int[MOST_SILLS];
    final int[] wearOf = new int[MOST_SILLS];
    final int[] mendedOf = new int[MOST_SILLS];
    final int[] keptBy = new int[MOST_SILLS];
    final int[] kept = new int[MOST_SILLS * MOST_KEPT];
    int people = 0;
    final int[] has = new int[MOST_PEOPLE];
    final int[] in = new int[MOST_PEOPLE];
    final int[] crossed = new int[MOST_PEOPLE];
    final int[] spots = new int[SPOTS];

    Quarter() {
      for (int spot = 0; spot < SPOTS; spot++) {
        spots[spot] = NOTHING;
      }
    }

    void become(Quarter other) {
      System.arraycopy(other.crossings, 0, crossings, 0, LIST_PLACES);
      lost = other.lost;
      day = other.day;
      z = other.z;
      sills = other.sills;
      System.arraycopy(other.kindOf, 0, kindOf, 0, MOST_SILLS);
      System.arraycopy(other.wearOf, 0, wearOf, 0, MOST_SILLS);
      System.arraycopy(other.mendedOf, 0, mendedOf, 0, MOST_SILLS);
      System.arraycopy(other.keptBy, 0, keptBy, 0, MOST_SILLS);
      System.arraycopy(other.kept, 0, kept, 0, MOST_SILLS * MOST_KEPT);
      people = other.people;
      System.arraycopy(other.has, 0, has, 0, MOST_PEOPLE);
      System.arraycopy(other.in, 0, in, 0, MOST_PEOPLE);
      System.arraycopy(other.crossed, 0, crossed, 0, MOST_PEOPLE);
      System.arraycopy(other.spots, 0, spots, 0, SPOTS);
    }

    boolean isSill(int sill) {
      return isBelow(sill, sills);
    }

    boolean isPerson(int person) {
      return isBelow(person, people);
    }

    boolean hasWord(int person, int word) {
      return (has[person] >> word & 1) != 0;
    }

    /** The new sill's number, or nothing if there is no room. */
    int addSill(int kind) {
      if (sills >= MOST_SILLS) {
        return NOTHING;
      }
      int sill = sills;
      sills++;
      kindOf[sill] = kind;
      wearOf[sill] = 0;
      mendedOf[sill] = 0;
      keptBy[sill] = 0;
      return sill;
    }

    /** The new one's number, or nothing if there is no room. */
    int addPerson(int words) {
      if (people >= MOST_PEOPLE) {
        return NOTHING;
      }
      int person = people;
      people++;
      has[person] = words;
      in[person] = NOTHING;
      crossed[person] = 0;
      return person;
    }

    int keptAt(int sill, int i) {
      if (!isBelow(sill, sills) || !isBelow(i, keptBy[sill])) {
        return NOTHING;
      }
      return kept[sill * MOST_KEPT + i];
    }

    int keptSet(int sill) {
      int set = 0;
      for (int i = 0; i < keptBy[sill]; i++) {
        set |= 1 << kept[sill * MOST_KEPT + i];
      }
      return set;
    }

    boolean keep(int sill, int word) {
      if (keptBy[sill] >= MOST_KEPT) {
        return false;
      }
      kept[sill * MOST_KEPT + keptBy[sill]] = word;
      keptBy[sill]++;
      return true;
    }

    private void dropKept(int sill, int place) {
      int begin = sill * MOST_KEPT;
      for (int i = place; i < keptBy[sill] - 1; i++) {
        kept[begin + i] = kept[begin + i + 1];
      }
      keptBy[sill]--;
    }

    private int placeGiven(int sill) {
      return Kinds.placeGiven(kindOf[sill], keptBy[sill], wearOf[sill]);
    }

    int tellSill(int sill, int what) {
      switch (what) {
        case 0:
          return kindOf[sill];
        case 1:
          return keptBy[sill];
        case 2:
          return wearOf[sill];
        case 3:
          return mendedOf[sill];
        case 4:
          return Kinds.mostHeld(kindOf[sill]);
        case 5:
          return keptSet(sill);
        default:
          return keptAt(sill, placeGiven(sill));
      }
    }

    int tellPerson(int person, int what) {
      switch (what) {
        case 0:
          return has[person];
        case 1:
          return in[person];
        default:
          return crossed[person];
      }
    }

    boolean mayCross(int person, int sill) {
      return mendedOf[sill] == 0 && (in[person] == NOTHING || in[person] == sill);
    }

    /** The word taken or given; nothing happens where nobody can cross. */
    int makeCrossing(int person, int sill) {
      if (!isPerson(person) || !isSill(sill) || !mayCross(person, sill)) {
        return NOTHING;
      }
      int word = in[person] == NOTHING ? goIn(person, sill) : comeOut(person, sill);
      wearOf[sill] = Math.min(wearOf[sill] + 1, MOST_COUNTED);
      crossed[person] = Math.min(crossed[person] + 1, MOST_COUNTED);
      return word;
    }

    private int goIn(int person, int sill) {
      in[person] = sill;
      int word = Kinds.wordTaken(kindOf[sill], has[person], keptSet(sill));
      if (word == NOTHING) {
        return NOTHING;
      }
      has[person] &= ~(1 << word);
      boolean room = keptBy[sill] < Kinds.mostHeld(kindOf[sill]);
      if (!room || !keep(sill, word)) {
        loseWord();
      }
      return word;
    }

    private int comeOut(int person, int sill) {
      in[person] = NOTHING;
      int place = placeGiven(sill);
      int word = keptAt(sill, place);
      if (word == NOTHING) {
        return NOTHING;
      }
      dropKept(sill, place);
      if (hasWord(person, word)) {
        loseWord();
      }
      has[person] |= 1 << word;
      return word;
    }

    private void loseWord() {
      lost = Math.min(lost + 1, MOST_LOST);
    }

    int placeOfToday() {
      return Math.floorMod(day, LIST_PLACES);
    }

    void passDays(int n) {
      for (int i = 0; i < n; i++) {
        int crossing = crossings[placeOfToday()];
        makeCrossing(crossing / 10, crossing % 10);
        day = Math.min(day + 1, MOST_DAYS);
      }
    }

    int draw() {
      z = z * 1103515245 + 12345;
      return z >>> 8;
    }

    int wordsHad() {
      int set = 0;
      for (int person = 0; person < people; person++) {
        set |= has[person];
      }
      return set;
    }

    int wordsKept() {
      int set = 0;
      for (int sill = 0; sill < sills; sill++) {
        set |= keptSet(sill);
      }
      return set;
    }

    int peopleInside() {
      int set = 0;
      for (int person = 0; person < people; person++) {
        if (in[person] != NOTHING) {
          set |= 1 << person;
        }
      }
      return set;
    }

    int peopleWithoutWords() {
      int set = 0;
      for (int person = 0; person < people; person++) {
        if (has[person] == 0) {
          set |= 1 << person;
        }
      }
      return set;
    }

    int wearOfAll() {
      int sum = 0;
      for (int sill = 0; sill < sills; sill++) {
        sum += wearOf[sill];
      }
      return sum;
    }

    int keptInAll() {
      int sum = 0;
      for (int sill = 0; sill < sills; sill++) {
        sum += keptBy[sill];
      }
      return sum;
    }

    int spotsInUse() {
      int used = 0;
      for (int spot = 0; spot < SPOTS; spot++) {
        if (spots[spot] != NOTHING) {
          used++;
        }
      }
      return used;
    }
  }

  /** The tape, and the reader of its text. */
  private static final class Tape {
    private static final int END = 0;
    private static final int WORD = 1;
    private static final int NUMBER = 2;
    private static final int SEMICOLON = 3;
    private static final int NO_TOKEN = 4;

    // Above every number that may stand anywhere, so that long ones don't wrap around.
    private static final int TOO_GREAT = 10000;

    final int[] bytes = new int[TAPE_BYTES];
    int size = 0;

    private int token = END;
    private int place = 0;
    private int end = 0;
    private int number = 0;

    boolean append(int fromNumber, int n) {
      if (n < 0 || n > TAPE_BYTES - size) {
        return false;
      }
      for (int i = n - 1; i >= 0; i--) {
        bytes[size] = fromNumber >>> 8 * i & 255;
        size++;
      }
      return true;
    }

    /** How many items the quarter was told, or -1 less the fault. */
    int readItems(Quarter quarter) {
      end = 0;
      readToken();
      // Each item takes a byte at least.
      for (int items = 1; items <= TAPE_BYTES; items++) {
        if (!readItem(quarter)) {
          return -1 - place;
        }
        if (token == END) {
          return items;
        }
        if (token != SEMICOLON) {
          return -1 - place;
        }
        readToken();
      }
      return -1 - place;
    }

    // Each reader below answers false with the token that can't stand there still unread.
    private boolean readItem(Quarter quarter) {
      if (isWord("person")) {
        return readPerson(quarter);
      }
      if (isWord("cross")) {
        return readCrossing(quarter);
      }
      int kind = Kinds.kindNamed(this);
      return kind != NOTHING && readSill(quarter, kind);
    }

    private boolean readSill(Quarter quarter, int kind) {
      int sill = quarter.addSill(kind);
      if (sill == NOTHING) {
        return false;
      }
      readToken();
      if (isWord("keeps")) {
        readToken();
        if (!readKept(quarter, sill)) {
          return false;
        }
      }
      if (isWord("mended")) {
        quarter.mendedOf[sill] = 1;
        readToken();
      }
      return true;
    }

    private boolean readKept(Quarter quarter, int sill) {
      for (int i = 0; i < MOST_KEPT && isNumber(WORDS - 1); i++) {
        quarter.keep(sill, number);
        readToken();
      }
      return quarter.keptBy[sill] > 0;
    }

    private boolean readPerson(Quarter quarter) {
      int person = quarter.addPerson(0);
      if (person == NOTHING) {
        return false;
      }
      readToken();
      if (isWord("has")) {
        readToken();
        if (!isNumber(MOST_WORDS_SET)) {
          return false;
        }
        quarter.has[person] = number;
        readToken();
      }
      if (isWord("in")) {
        readToken();
        if (!isNumber(quarter.sills - 1)) {
          return false;
        }
        quarter.in[person] = number;
        readToken();
      }
      return true;
    }

    private boolean readCrossing(Quarter quarter) {
      readToken();
      if (!isNumber(LIST_PLACES - 1)) {
        return false;
      }
      int listPlace = number;
      readToken();
      if (!isNumber(MOST_PEOPLE - 1)) {
        return false;
      }
      int person = number;
      readToken();
      if (!isNumber(MOST_SILLS - 1)) {
        return false;
      }
      quarter.crossings[listPlace] = 10 * person + number;
      readToken();
      return true;
    }

    boolean isWord(String text) {
      if (token != WORD || end - place != text.length()) {
        return false;
      }
      for (int i = 0; i < text.length(); i++) {
        if (bytes[place + i] != text.charAt(i)) {
          return false;
        }
      }
      return true;
    }

    private boolean isNumber(int most) {
      return token == NUMBER && number <= most;
    }

    private void readToken() {
      place = end;
      while (place < size && bytes[place] == ' ') {
        place++;
      }
      end = place;
      if (place >= size) {
        token = END;
      } else if (isLetter(bytes[place])) {
        token = WORD;
        while (end < size && isLetter(bytes[end])) {
          end++;
        }
      } else if (isDigit(bytes[place])) {
        token = NUMBER;
        number = 0;
        while (end < size && isDigit(bytes[end])) {
          number = Math.min(10 * number + bytes[end] - '0', TOO_GREAT);
          end++;
        }
      } else {
        token = bytes[place] == ';' ? SEMICOLON : NO_TOKEN;
        end++;
      }
    }

    private static boolean isLetter(int sign) {
      return sign >= 'a' && sign <= 'z';
    }

    private static boolean isDigit(int sign) {
      return sign >= '0' && sign <= '9';
    }
  }

  /** The sheets, all in one row of numbers; one of no bits is missing. */
  private static final class Sheets {
    private static final int ANY = -1;

    final int[] bits = new int[SHEETS];
    final int[] sizes = new int[SHEETS];
    private final int[] numbers = new int[SHEETS * SHEET_NUMBERS];

    boolean isMissing(int s) {
      return bits[s] == 0;
    }

    void layOut(int s, int newBits, int n) {
      bits[s] = newBits;
      sizes[s] = n;
      for (int i = 0; i < n; i++) {
        numbers[s * SHEET_NUMBERS + i] = 0;
      }
    }

    int numberAt(int s, int i) {
      return numbers[s * SHEET_NUMBERS + i];
    }

    void put(int s, int i, int v) {
      numbers[s * SHEET_NUMBERS + i] = lowestBits(bits[s], v);
    }

    // Signed, since -1 must be tellable in sheets of few bits, too.
    private static int lowestBits(int width, int v) {
      switch (width) {
        case 8:
          return (byte) v;
        case 16:
          return (short) v;
        default:
          return v;
      }
    }

    boolean hasRange(int s, int from, int n) {
      return from >= 0 && n >= 0 && n <= sizes[s] && from <= sizes[s] - n;
    }

    void move(int s, int from, int t, int to, int n) {
      System.arraycopy(numbers, s * SHEET_NUMBERS + from, numbers, t * SHEET_NUMBERS + to, n);
    }

    boolean admits(int s, int i, int v) {
      int told = numberAt(s, i);
      return told == ANY || told == v;
    }
  }
}
