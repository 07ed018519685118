/**
 * Kings who hold each other's children, so that none may break his word.
 *
 * The face asks for findings in the document's order; the nested classes below take only what the
 * face has tested, so an index they use is always one that there is.
 */
public final class HostageKings {
  private static final int KINGS = 6;
  private static final int MAX_CHILDREN = 14;
  private static final int MAX_TREATIES = 12;
  private static final int MAX_WORTH = 99;
  private static final int MAX_FEAR = 99;
  private static final int MAX_GAIN = 999;
  private static final int MAX_MONTH = 999;
  private static final int MAX_GOING = 60;
  private static final int MAX_AHEAD = 120;
  private static final int MAX_MOVED = 8;
  private static final int MAX_TAPE = 120;
  private static final int SHEETS = 4;
  private static final int MAX_NUMBERS = 40;

  private static final int KINDS = 6;
  private static final int HEIR = 1;
  private static final int WARD = 2;
  private static final int ELDEST = 3;
  private static final int LOST = 4;
  private static final int TWIN = 5;
  /** The kind that each kind stands under; -1 above all. */
  private static final int[] KIND_ABOVE = {-1, 0, 0, 1, 2, 1};

  private static final int FINDINGS = 7;
  private static final int FIRST_FINDING = -1000000001;
  private static final int BEYOND = 0;
  private static final int FULL = 1;
  private static final int KIND = 2;
  private static final int NONE = 3;
  private static final int STATE = 4;
  private static final int MISSING = 5;
  private static final int SIZE = 6;

  private final Realm realm = new Realm();
  private final Realm kept = new Realm();
  /** What would be is tried here, again and again, so that a call makes no objects. */
  private final Realm trial = new Realm();
  private final Planner planner = new Planner();
  private final Route route = new Route();
  private final Tape tape = new Tape();
  private final Sheet[] sheets = new Sheet[SHEETS];
  private final int[] answered = new int[FINDINGS];
  private boolean isKept;

  public HostageKings() {
    for (int s = 0; s < SHEETS; s++) {
      sheets[s] = new Sheet();
    }
  }

  // ---- kings, children

  public int fear(int king, int v) {
    if (!isKing(king) || !isWithin(v, MAX_FEAR)) {
      return finding(BEYOND);
    }
    int was = realm.fears[king];
    realm.fears[king] = v;
    return was;
  }

  public int kingOf(int king, int what) {
    if (!isKing(king)) {
      return finding(BEYOND);
    }
    switch (what) {
      case 0:
        return realm.fears[king];
      case 1:
        return realm.childrenOf(king);
      case 2:
        return realm.heldFromOthers(king);
      case 3:
        return realm.wordsOf(king);
      default:
        return finding(BEYOND);
    }
  }

  public int child(int kind, int father, int worth) {
    if (!isKind(kind) || !isKing(father) || !isWithin(worth, MAX_WORTH)) {
      return finding(BEYOND);
    }
    if (realm.children >= MAX_CHILDREN) {
      return finding(FULL);
    }
    return realm.addChild(kind, father, father, worth);
  }

  public int of(int child, int what) {
    if (!isChild(child)) {
      return finding(BEYOND);
    }
    switch (what) {
      case 0:
        return realm.kinds[child];
      case 1:
        return realm.fathers[child];
      case 2:
        return realm.holders[child];
      case 3:
        return realm.worths[child];
      case 4:
        return realm.isDead(child) ? 1 : 0;
      case 5:
        return realm.lossOf(child);
      default:
        return finding(BEYOND);
    }
  }

  public int move(int child, int holder) {
    if (!isChild(child) || !isKing(holder)) {
      return finding(BEYOND);
    }
    if (realm.isDead(child)) {
      return finding(STATE);
    }
    int was = realm.holders[child];
    realm.holders[child] = holder;
    return was;
  }

  public int worth(int child, int v) {
    if (!isChild(child) || !isWithin(v, MAX_WORTH)) {
      return finding(BEYOND);
    }
    int was = realm.worths[child];
    realm.worths[child] = v;
    return was;
  }

  public int turn(int child, int kind) {
    if (!isChild(child) || !isKind(kind)) {
      return finding(BEYOND);
    }
    int was = realm.kinds[child];
    realm.kinds[child] = kind;
    return was;
  }

  public int as(int child, int kind) {
    if (!isChild(child) || !isKind(kind)) {
      return finding(BEYOND);
    }
    if (!isKindUnder(realm.kinds[child], kind)) {
      return finding(KIND);
    }
    return realm.holders[child];
  }

  public int dies(int child) {
    if (!isChild(child)) {
      return finding(BEYOND);
    }
    if (realm.isDead(child)) {
      return finding(STATE);
    }
    int before = realm.looseWords();
    realm.deadSet |= 1 << child;
    return Integer.bitCount(realm.looseWords() & ~before);
  }

  public int swap(int one, int other) {
    if (!isChild(one) || !isChild(other) || one == other) {
      return finding(BEYOND);
    }
    if (realm.isDead(one) || realm.isDead(other)) {
      return finding(STATE);
    }
    int holder = realm.holders[one];
    realm.holders[one] = realm.holders[other];
    realm.holders[other] = holder;
    return 1;
  }

  // ---- treaties

  public int treaty(int by, int to, int gain, int until) {
    if (!areTwoKings(by, to) || !isWithin(gain, MAX_GAIN) || !isWithin(until, MAX_MONTH)) {
      return finding(BEYOND);
    }
    if (realm.treaties >= MAX_TREATIES) {
      return finding(FULL);
    }
    return realm.addTreaty(by, to, gain, until);
  }

  public int treatyOf(int treaty, int what) {
    if (!isTreaty(treaty)) {
      return finding(BEYOND);
    }
    switch (what) {
      case 0:
        return realm.bys[treaty];
      case 1:
        return realm.tos[treaty];
      case 2:
        return realm.gains[treaty];
      case 3:
        return realm.untils[treaty];
      case 4:
        return realm.isBroken(treaty) ? 1 : 0;
      case 5:
        return realm.isInForce(treaty) ? 1 : 0;
      case 6:
        return realm.isInForce(treaty) && realm.easeOf(treaty) < 0 ? 1 : 0;
      default:
        return finding(BEYOND);
    }
  }

  public int gain(int treaty, int v) {
    if (!isTreaty(treaty) || !isWithin(v, MAX_GAIN)) {
      return finding(BEYOND);
    }
    int was = realm.gains[treaty];
    realm.gains[treaty] = v;
    return was;
  }

  public int pledge(int holder, int of) {
    if (!areTwoKings(holder, of)) {
      return finding(BEYOND);
    }
    return realm.pledgeHeld(holder, of);
  }

  public int ease(int treaty) {
    if (!isTreaty(treaty)) {
      return finding(BEYOND);
    }
    if (!realm.isInForce(treaty)) {
      return finding(STATE);
    }
    return realm.easeOf(treaty);
  }

  public int loose() {
    return realm.looseWords();
  }

  public int pact(int one, int other) {
    if (!areTwoKings(one, other)) {
      return finding(BEYOND);
    }
    return realm.pactPays(one, other) ? 1 : 0;
  }

  public int plot() {
    for (int one = 0; one < KINGS; one++) {
      for (int other = one + 1; other < KINGS; other++) {
        if (realm.pactPays(one, other)) {
          return 10 * one + other;
        }
      }
    }
    return finding(NONE);
  }

  // ---- falls

  public int fall() {
    return realm.bringDown();
  }

  public int wouldFall(int what) {
    if (what < 0 || what > 3) {
      return finding(BEYOND);
    }
    if (what == 3) {
      return realm.looseWords();
    }
    trial.become(realm);
    int rounds = trial.bringDown();
    if (what == 0) {
      return rounds;
    }
    return what == 1 ? trial.brokenSet & ~realm.brokenSet : trial.deadSet & ~realm.deadSet;
  }

  public int pulls(int treaty) {
    if (!isTreaty(treaty)) {
      return finding(BEYOND);
    }
    if (!realm.isInForce(treaty)) {
      return finding(STATE);
    }
    return broughtDownWith(treaty);
  }

  public int keystone() {
    int found = -1;
    int most = 0;
    for (int t = 0; t < realm.treaties; t++) {
      if (!realm.isInForce(t)) {
        continue;
      }
      int broken = Integer.bitCount(broughtDownWith(t));
      if (broken > most) {
        most = broken;
        found = t;
      }
    }
    return found < 0 ? finding(NONE) : found;
  }

  public int months(int n) {
    if (n < 1 || n > MAX_GOING) {
      return finding(BEYOND);
    }
    if (realm.month + n > MAX_MONTH) {
      return finding(STATE);
    }
    int before = realm.brokenSet;
    realm.pass(n);
    return Integer.bitCount(realm.brokenSet & ~before);
  }

  public int now(int what) {
    switch (what) {
      case 0:
        return realm.month;
      case 1:
        return Integer.bitCount(realm.wordsInForce());
      case 2:
        return Integer.bitCount(realm.brokenSet);
      case 3:
        return Integer.bitCount(realm.living());
      case 4:
        return Integer.bitCount(realm.livingAtHome());
      default:
        return finding(BEYOND);
    }
  }

  public int on(int n) {
    if (!isWithin(n, MAX_AHEAD)) {
      return finding(BEYOND);
    }
    if (realm.month + n > MAX_MONTH) {
      return finding(STATE);
    }
    trial.become(realm);
    trial.pass(n);
    return trial.wordsInForce();
  }

  // ---- moves

  public int moves(int what) {
    if (what < 0 || what > 2) {
      return finding(BEYOND);
    }
    int planned = planner.plan(realm);
    if (planned < 0 || what > planned) {
      return finding(NONE);
    }
    if (what == 0) {
      return planned;
    }
    return what == 1 ? planner.first : planner.second;
  }

  public int best(int child) {
    if (!isChild(child)) {
      return finding(BEYOND);
    }
    if (realm.isDead(child)) {
      return finding(STATE);
    }
    trial.become(realm);
    int found = 0;
    int fewest = MAX_TREATIES + 1;
    for (int holder = 0; holder < KINGS; holder++) {
      trial.holders[child] = holder;
      int loose = Integer.bitCount(trial.looseWords());
      if (loose < fewest) {
        fewest = loose;
        found = holder;
      }
    }
    return found;
  }

  public int key(int king) {
    if (!isKing(king)) {
      return finding(BEYOND);
    }
    trial.become(realm);
    int before = realm.looseWords();
    int found = -1;
    int most = 0;
    for (int c = 0; c < realm.children; c++) {
      if (realm.fathers[c] != king || realm.isDead(c)) {
        continue;
      }
      trial.holders[c] = king;
      int loosened = Integer.bitCount(trial.looseWords() & ~before);
      trial.holders[c] = realm.holders[c];
      if (loosened > most) {
        most = loosened;
        found = c;
      }
    }
    return found < 0 ? finding(NONE) : found;
  }

  public int toFree(int by, int to) {
    if (!areTwoKings(by, to)) {
      return finding(BEYOND);
    }
    return realm.hasWord(by, to) ? realm.heldBy(to, by) : 0;
  }

  public int way(int s, int what) {
    Sheet sheet = sheetAt(s);
    if (sheet == null) {
      return finding(BEYOND);
    }
    if (sheet.isMissing()) {
      return finding(MISSING);
    }
    if (what < -1 || what >= MAX_MOVED) {
      return finding(BEYOND);
    }
    route.aim(realm, sheet);
    if (route.moved > MAX_MOVED) {
      return finding(SIZE);
    }
    if (route.movesDead(realm)) {
      return finding(STATE);
    }
    if (!route.find(realm) || what >= route.moved) {
      return finding(NONE);
    }
    return what < 0 ? route.moved : route.order[what];
  }

  // ---- the text

  public int feed(int bytes, int n) {
    if (n < 1 || n > 4) {
      return finding(BEYOND);
    }
    if (tape.size + n > MAX_TAPE) {
      return finding(FULL);
    }
    for (int place = n - 1; place >= 0; place--) {
      tape.add(bytes >>> (8 * place) & 255);
    }
    return tape.size;
  }

  public int wipe() {
    int had = tape.size;
    tape.size = 0;
    return had;
  }

  public int court() {
    trial.become(realm);
    int items = tape.readInto(trial);
    tape.size = 0;
    if (items < 0) {
      return -1 - tape.start;
    }
    realm.become(trial);
    return items;
  }

  // ---- sheets

  public int sheet(int s, int bits, int n) {
    Sheet sheet = sheetAt(s);
    if (sheet == null || (bits != 0 && bits != 8 && bits != 16 && bits != 64)) {
      return finding(BEYOND);
    }
    if (n < 0) {
      return finding(SIZE);
    }
    if (n > MAX_NUMBERS) {
      return finding(BEYOND);
    }
    sheet.lay(bits, bits == 0 ? 0 : n);
    return sheet.size;
  }

  public long write(int s, int i, long v) {
    Sheet sheet = sheetAt(s);
    if (sheet == null) {
      return finding(BEYOND);
    }
    if (sheet.isMissing()) {
      return finding(MISSING);
    }
    if (i < 0 || i >= sheet.size) {
      return finding(BEYOND);
    }
    long was = sheet.numbers[i];
    sheet.put(i, v);
    return was;
  }

  public int copy(int s, int from, int t, int to, int n) {
    Sheet source = sheetAt(s);
    Sheet target = sheetAt(t);
    if (source == null || target == null) {
      return finding(BEYOND);
    }
    if (source.isMissing() || target.isMissing()) {
      return finding(MISSING);
    }
    if (source.bits != target.bits) {
      return finding(KIND);
    }
    if (!source.hasRow(from, n) || !target.hasRow(to, n)) {
      return finding(BEYOND);
    }
    System.arraycopy(source.numbers, from, target.numbers, to, n);
    return n;
  }

  public int lays(int s) {
    Sheet sheet = sheetAt(s);
    if (sheet == null) {
      return finding(BEYOND);
    }
    if (sheet.isMissing()) {
      return finding(MISSING);
    }
    int laid = 0;
    for (int c = 0; c < realm.children && c < sheet.size; c++) {
      int holder = sheet.holderAt(c);
      if (holder >= 0 && !realm.isDead(c)) {
        realm.holders[c] = holder;
        laid++;
      }
    }
    return laid;
  }

  public int roll(int s) {
    Sheet sheet = sheetAt(s);
    if (sheet == null) {
      return finding(BEYOND);
    }
    if (sheet.isMissing()) {
      return finding(MISSING);
    }
    int rolled = Math.min(realm.children, sheet.size);
    for (int c = 0; c < rolled; c++) {
      sheet.put(c, realm.rolledHolder(c));
    }
    return rolled;
  }

  public int read(int s) {
    Sheet sheet = sheetAt(s);
    if (sheet == null) {
      return finding(BEYOND);
    }
    if (sheet.isMissing()) {
      return finding(MISSING);
    }
    int common = Math.min(realm.children, sheet.size);
    for (int c = 0; c < common; c++) {
      if (sheet.numbers[c] != realm.rolledHolder(c)) {
        return 1 + c;
      }
    }
    return realm.children == sheet.size ? 0 : 1 + common;
  }

  // ---- images

  public int image() {
    kept.become(realm);
    isKept = true;
    return 1;
  }

  public int undo() {
    if (!isKept) {
      return finding(NONE);
    }
    realm.become(kept);
    return realm.children;
  }

  public int tear() {
    int had = isKept ? 1 : 0;
    isKept = false;
    return had;
  }

  public int count(int what) {
    switch (what) {
      case 0:
        return realm.children;
      case 1:
        return realm.treaties;
      case 2:
        return tape.size;
      case 3:
        return realm.lossesAbroad();
      default:
        return finding(BEYOND);
    }
  }

  public int status(int which) {
    if (which < -1 || which >= FINDINGS) {
      return finding(BEYOND);
    }
    if (which >= 0) {
      return answered[which];
    }
    int all = 0;
    for (int f = 0; f < FINDINGS; f++) {
      all += answered[f];
    }
    return all;
  }

  // ---- what the acts share

  private int finding(int which) {
    answered[which]++;
    return FIRST_FINDING - which;
  }

  private static boolean isWithin(int v, int most) {
    return v >= 0 && v <= most;
  }

  private static boolean isKing(int king) {
    return king >= 0 && king < KINGS;
  }

  private static boolean areTwoKings(int one, int other) {
    return isKing(one) && isKing(other) && one != other;
  }

  private static boolean isKind(int kind) {
    return kind >= 0 && kind < KINDS;
  }

  private boolean isChild(int child) {
    return child >= 0 && child < realm.children;
  }

  private boolean isTreaty(int treaty) {
    return treaty >= 0 && treaty < realm.treaties;
  }

  /** Whether a kind is another one, or stands under it. */
  private static boolean isKindUnder(int kind, int above) {
    int at = kind;
    for (int step = 0; step < KINDS && at >= 0; step++) {
      if (at == above) {
        return true;
      }
      at = KIND_ABOVE[at];
    }
    return false;
  }

  /** A sheet by its number, or null if there is no such sheet. */
  private Sheet sheetAt(int s) {
    return s >= 0 && s < SHEETS ? sheets[s] : null;
  }

  /** Treaties that fall if one in force is broken first, that one too. */
  private int broughtDownWith(int treaty) {
    trial.become(realm);
    trial.breakWords(1 << treaty);
    trial.bringDown();
    return trial.brokenSet & ~realm.brokenSet;
  }

  /** All that section 1 of the document tells, but for the tape. */
  private static final class Realm {
    final int[] fears = new int[KINGS];
    final int[] kinds = new int[MAX_CHILDREN];
    final int[] fathers = new int[MAX_CHILDREN];
    final int[] holders = new int[MAX_CHILDREN];
    final int[] worths = new int[MAX_CHILDREN];
    final int[] bys = new int[MAX_TREATIES];
    final int[] tos = new int[MAX_TREATIES];
    final int[] gains = new int[MAX_TREATIES];
    final int[] untils = new int[MAX_TREATIES];
    /** By holder, what is held of the one king whose words are looked at. */
    private final int[] pledges = new int[KINGS];
    int children;
    int treaties;
    int deadSet;
    int brokenSet;
    int month;

    void become(Realm other) {
      System.arraycopy(other.fears, 0, fears, 0, KINGS);
      System.arraycopy(other.kinds, 0, kinds, 0, MAX_CHILDREN);
      System.arraycopy(other.fathers, 0, fathers, 0, MAX_CHILDREN);
      System.arraycopy(other.holders, 0, holders, 0, MAX_CHILDREN);
      System.arraycopy(other.worths, 0, worths, 0, MAX_CHILDREN);
      System.arraycopy(other.bys, 0, bys, 0, MAX_TREATIES);
      System.arraycopy(other.tos, 0, tos, 0, MAX_TREATIES);
      System.arraycopy(other.gains, 0, gains, 0, MAX_TREATIES);
      System.arraycopy(other.untils, 0, untils, 0, MAX_TREATIES);
      children = other.children;
      treaties = other.treaties;
      deadSet = other.deadSet;
      brokenSet = other.brokenSet;
      month = other.month;
    }

    /** Only while there are fewer than MAX_CHILDREN. */
    int addChild(int kind, int father, int holder, int worth) {
      int c = children;
      kinds[c] = kind;
      fathers[c] = father;
      holders[c] = holder;
      worths[c] = worth;
      children++;
      return c;
    }

    /** Only while there are fewer than MAX_TREATIES. */
    int addTreaty(int by, int to, int gain, int until) {
      int t = treaties;
      bys[t] = by;
      tos[t] = to;
      gains[t] = gain;
      untils[t] = until;
      treaties++;
      return t;
    }

    boolean isDead(int child) {
      return (deadSet >> child & 1) != 0;
    }

    boolean isBroken(int treaty) {
      return (brokenSet >> treaty & 1) != 0;
    }

    boolean isInForce(int treaty) {
      return !isBroken(treaty) && month <= untils[treaty];
    }

    int lossOf(int child) {
      return lossBeside(twinsAtHome(fathers[child]), child);
    }

    /** The loss of a child whose father has those twins at home (told, to be sought but once). */
    private int lossBeside(int twins, int child) {
      if (isDead(child)) {
        return 0;
      }
      int asChild = worths[child];
      switch (kinds[child]) {
        case HEIR:
          return 2 * asChild;
        case WARD:
          return asChild / 2;
        case ELDEST:
          return 2 * asChild + 20;
        case LOST:
          return Math.max(0, asChild / 2 - 5);
        case TWIN:
          return (twins & ~(1 << child)) != 0 ? asChild : 2 * asChild;
        default:
          return asChild;
      }
    }

    private int twinsAtHome(int father) {
      int set = 0;
      for (int c = 0; c < children; c++) {
        if (kinds[c] == TWIN && fathers[c] == father && holders[c] == father && !isDead(c)) {
          set |= 1 << c;
        }
      }
      return set;
    }

    int rolledHolder(int child) {
      return isDead(child) ? -1 : holders[child];
    }

    int living() {
      return (1 << children) - 1 & ~deadSet;
    }

    int livingAtHome() {
      int set = 0;
      for (int king = 0; king < KINGS; king++) {
        set |= heldBy(king, king);
      }
      return set;
    }

    int childrenOf(int king) {
      int set = 0;
      for (int c = 0; c < children; c++) {
        if (fathers[c] == king && !isDead(c)) {
          set |= 1 << c;
        }
      }
      return set;
    }

    int heldFromOthers(int king) {
      int set = 0;
      for (int c = 0; c < children; c++) {
        if (holders[c] == king && fathers[c] != king && !isDead(c)) {
          set |= 1 << c;
        }
      }
      return set;
    }

    /** Children of a father, not dead, that a holder has. */
    int heldBy(int holder, int father) {
      int set = 0;
      for (int c = 0; c < children; c++) {
        if (holders[c] == holder && fathers[c] == father && !isDead(c)) {
          set |= 1 << c;
        }
      }
      return set;
    }

    int pledgeHeld(int holder, int father) {
      int sum = 0;
      for (int c = 0; c < children; c++) {
        if (holders[c] == holder && fathers[c] == father) {
          sum += lossOf(c);
        }
      }
      return sum;
    }

    int lossesAbroad() {
      int sum = 0;
      for (int c = 0; c < children; c++) {
        if (holders[c] != fathers[c]) {
          sum += lossOf(c);
        }
      }
      return sum;
    }

    int wordsInForce() {
      int set = 0;
      for (int t = 0; t < treaties; t++) {
        if (isInForce(t)) {
          set |= 1 << t;
        }
      }
      return set;
    }

    int wordsOf(int king) {
      int set = 0;
      for (int t = 0; t < treaties; t++) {
        if (bys[t] == king && isInForce(t)) {
          set |= 1 << t;
        }
      }
      return set;
    }

    boolean hasWord(int by, int to) {
      for (int t = 0; t < treaties; t++) {
        if (bys[t] == by && tos[t] == to && isInForce(t)) {
          return true;
        }
      }
      return false;
    }

    int easeOf(int treaty) {
      int by = bys[treaty];
      return pledgeHeld(tos[treaty], by) + fears[by] - gains[treaty];
    }

    int looseWords() {
      int set = 0;
      for (int king = 0; king < KINGS; king++) {
        set |= looseWordsOf(king);
      }
      return set;
    }

    /** A king's words hang on his own children alone: so planning looks again at few kings. */
    int looseWordsOf(int king) {
      for (int holder = 0; holder < KINGS; holder++) {
        pledges[holder] = 0;
      }
      int twins = twinsAtHome(king);
      for (int c = 0; c < children; c++) {
        if (fathers[c] == king) {
          pledges[holders[c]] += lossBeside(twins, c);
        }
      }
      int set = 0;
      for (int t = 0; t < treaties; t++) {
        if (bys[t] == king && isInForce(t) && gains[t] > pledges[tos[t]] + fears[king]) {
          set |= 1 << t;
        }
      }
      return set;
    }

    boolean pactPays(int one, int other) {
      int gained = 0;
      for (int t = 0; t < treaties; t++) {
        if (isInForce(t) && isOneOf(bys[t], one, other) && !isOneOf(tos[t], one, other)) {
          gained += gains[t];
        }
      }
      int lost = fears[one] + fears[other];
      for (int c = 0; c < children; c++) {
        if (isOneOf(fathers[c], one, other) && !isOneOf(holders[c], one, other)) {
          lost += lossOf(c);
        }
      }
      return gained > lost;
    }

    private static boolean isOneOf(int king, int one, int other) {
      return king == one || king == other;
    }

    void breakWords(int set) {
      brokenSet |= set;
      for (int t = 0; t < treaties; t++) {
        if ((set >> t & 1) != 0) {
          deadSet |= heldBy(tos[t], bys[t]);
        }
      }
    }

    /** A fall: how many rounds. Each breaks a treaty, so there are no more rounds than treaties. */
    int bringDown() {
      for (int rounds = 0; rounds < MAX_TREATIES; rounds++) {
        int loose = looseWords();
        if (loose == 0) {
          return rounds;
        }
        breakWords(loose);
      }
      return MAX_TREATIES;
    }

    /** Behind a fall nothing is loose, and months alone loosen nothing: the first fall is all. */
    void pass(int months) {
      if (months > 0) {
        bringDown();
        month += months;
      }
    }
  }

  /** Seeks the fewest children whose moving makes all hold. A move's code tells child and holder. */
  private static final class Planner {
    private final Realm trial = new Realm();
    private int looseKings;
    int first;
    int second;

    /** How many moves the first plan has; -1 if there is no plan. */
    int plan(Realm from) {
      trial.become(from);
      looseKings = 0;
      for (int king = 0; king < KINGS; king++) {
        if (trial.looseWordsOf(king) != 0) {
          looseKings |= 1 << king;
        }
      }
      if (looseKings == 0) {
        return 0;
      }
      if (findOne(from)) {
        return 1;
      }
      return findTwo(from) ? 2 : -1;
    }

    private boolean findOne(Realm from) {
      int codes = KINGS * from.children;
      for (int code = 0; code < codes; code++) {
        int c = code / KINGS;
        if (!isMove(from, code) || !mayMend(c, c)) {
          continue;
        }
        trial.holders[c] = code % KINGS;
        if (allHold(c, c)) {
          first = code;
          return true;
        }
        trial.holders[c] = from.holders[c];
      }
      return false;
    }

    private boolean findTwo(Realm from) {
      int codes = KINGS * from.children;
      for (int code = 0; code < codes; code++) {
        int c = code / KINGS;
        if (!isMove(from, code)) {
          continue;
        }
        trial.holders[c] = code % KINGS;
        if (findGreater(from, c)) {
          first = code;
          return true;
        }
        trial.holders[c] = from.holders[c];
      }
      return false;
    }

    /** The lesser child stands already where the plan has it. */
    private boolean findGreater(Realm from, int lesser) {
      int codes = KINGS * from.children;
      for (int code = KINGS * (lesser + 1); code < codes; code++) {
        int c = code / KINGS;
        if (!isMove(from, code) || !mayMend(lesser, c)) {
          continue;
        }
        trial.holders[c] = code % KINGS;
        if (allHold(lesser, c)) {
          second = code;
          return true;
        }
        trial.holders[c] = from.holders[c];
      }
      return false;
    }

    private static boolean isMove(Realm from, int code) {
      int c = code / KINGS;
      return !from.isDead(c) && from.holders[c] != code % KINGS;
    }

    /** Moving children leaves loose what other kings than their fathers have loose. */
    private boolean mayMend(int one, int other) {
      int fathers = 1 << trial.fathers[one] | 1 << trial.fathers[other];
      return (looseKings & ~fathers) == 0;
    }

    /** Behind mayMend, only the words of the two fathers are left to be looked at. */
    private boolean allHold(int one, int other) {
      int father = trial.fathers[one];
      int next = trial.fathers[other];
      return trial.looseWordsOf(father) == 0
          && (father == next || trial.looseWordsOf(next) == 0);
    }
  }

  /** Seeks the order in which children are moved so that no word is loose behind any move. */
  private static final class Route {
    private final Realm trial = new Realm();
    private final int[] movers = new int[MAX_CHILDREN];
    private final int[] aims = new int[MAX_CHILDREN];
    /** By the set of those moved: whether that holds and the rest can follow. */
    private final boolean[] leadsOn = new boolean[1 << MAX_MOVED];
    final int[] order = new int[MAX_MOVED];
    int moved;

    void aim(Realm from, Sheet sheet) {
      moved = 0;
      for (int c = 0; c < from.children && c < sheet.size; c++) {
        int holder = sheet.holderAt(c);
        if (holder >= 0 && holder != from.holders[c]) {
          movers[moved] = c;
          aims[moved] = holder;
          moved++;
        }
      }
    }

    boolean movesDead(Realm from) {
      for (int m = 0; m < moved; m++) {
        if (from.isDead(movers[m])) {
          return true;
        }
      }
      return false;
    }

    /** Only for at most MAX_MOVED movers. Whether there is a way; then order has the first one. */
    boolean find(Realm from) {
      trial.become(from);
      int all = (1 << moved) - 1;
      for (int set = all; set > 0; set--) {
        leadsOn[set] = (set == all || firstStep(set) >= 0) && holdsAt(from, set);
      }
      int set = 0;
      for (int step = 0; step < moved; step++) {
        int m = firstStep(set);
        if (m < 0) {
          return false;
        }
        order[step] = movers[m];
        set |= 1 << m;
      }
      return true;
    }

    /** The least mover that can go next, or -1. */
    private int firstStep(int set) {
      for (int m = 0; m < moved; m++) {
        if ((set >> m & 1) == 0 && leadsOn[set | 1 << m]) {
          return m;
        }
      }
      return -1;
    }

    private boolean holdsAt(Realm from, int set) {
      for (int m = 0; m < moved; m++) {
        int c = movers[m];
        trial.holders[c] = (set >> m & 1) != 0 ? aims[m] : from.holders[c];
      }
      return trial.looseWords() == 0;
    }
  }

  /** The tape, read token by token; the token looked at is the fault if it can't stand there. */
  private static final class Tape {
    private static final int END = 0;
    private static final int WORD = 1;
    private static final int NUMBER = 2;
    private static final int SIGN = 3;
    private static final int NO_TOKEN = 4;
    private static final int MAX_NUMBER = 999;
    private static final int WORTH_UNTOLD = 10;

    private final int[] bytes = new int[MAX_TAPE];
    int size;
    private int token;
    /** Place of the first byte of the token looked at, or behind all bytes at the end. */
    int start;
    private int end;
    private int value;

    /** Only while there are fewer than MAX_TAPE. */
    void add(int b) {
      bytes[size] = b;
      size++;
    }

    /** How many items came to a realm; -1 with a fault, at start (the realm is spoilt then). */
    int readInto(Realm realm) {
      end = 0;
      advance();
      for (int items = 1; items <= MAX_TAPE; items++) {
        if (!readItem(realm)) {
          return -1;
        }
        if (token == END) {
          return items;
        }
        if (token != SIGN) {
          return -1;
        }
        advance();
      }
      return -1;
    }

    private boolean readItem(Realm realm) {
      if (isWord("king")) {
        return readFear(realm);
      }
      if (isWord("word")) {
        return readTreaty(realm);
      }
      for (int kind = 0; kind < KINDS; kind++) {
        if (isWord(nameOfKind(kind))) {
          return readChild(realm, kind);
        }
      }
      return false;
    }

    private boolean readFear(Realm realm) {
      advance();
      int king = takeNumber(KINGS - 1);
      if (king < 0 || !takeWord("fear")) {
        return false;
      }
      int v = takeNumber(MAX_FEAR);
      if (v < 0) {
        return false;
      }
      realm.fears[king] = v;
      return true;
    }

    private boolean readChild(Realm realm, int kind) {
      if (realm.children >= MAX_CHILDREN) {
        return false;
      }
      advance();
      if (!takeWord("of")) {
        return false;
      }
      int father = takeNumber(KINGS - 1);
      if (father < 0) {
        return false;
      }
      int holder = takeWord("with") ? takeNumber(KINGS - 1) : father;
      if (holder < 0) {
        return false;
      }
      int worth = takeWord("worth") ? takeNumber(MAX_WORTH) : WORTH_UNTOLD;
      if (worth < 0) {
        return false;
      }
      realm.addChild(kind, father, holder, worth);
      return true;
    }

    private boolean readTreaty(Realm realm) {
      if (realm.treaties >= MAX_TREATIES) {
        return false;
      }
      advance();
      int by = takeNumber(KINGS - 1);
      if (by < 0 || !takeWord("to") || (token == NUMBER && value == by)) {
        return false;
      }
      int to = takeNumber(KINGS - 1);
      if (to < 0 || !takeWord("gain")) {
        return false;
      }
      int gain = takeNumber(MAX_GAIN);
      if (gain < 0) {
        return false;
      }
      int until = takeWord("until") ? takeNumber(MAX_MONTH) : MAX_MONTH;
      if (until < 0) {
        return false;
      }
      realm.addTreaty(by, to, gain, until);
      return true;
    }

    private boolean takeWord(String word) {
      if (!isWord(word)) {
        return false;
      }
      advance();
      return true;
    }

    /** The number looked at, or -1 if it is none or above most (it is looked at still then). */
    private int takeNumber(int most) {
      if (token != NUMBER || value > most) {
        return -1;
      }
      int taken = value;
      advance();
      return taken;
    }

    private boolean isWord(String word) {
      if (token != WORD || end - start != word.length()) {
        return false;
      }
      for (int i = 0; i < word.length(); i++) {
        if (bytes[start + i] != word.charAt(i)) {
          return false;
        }
      }
      return true;
    }

    /** Looks at the next token. A number above MAX_NUMBER stays just above it, however long. */
    private void advance() {
      start = end;
      while (start < size && bytes[start] == ' ') {
        start++;
      }
      end = start;
      value = 0;
      if (start >= size) {
        token = END;
      } else if (isLetter(bytes[start])) {
        token = WORD;
        while (end < size && isLetter(bytes[end])) {
          end++;
        }
      } else if (isDigit(bytes[start])) {
        token = NUMBER;
        while (end < size && isDigit(bytes[end])) {
          value = Math.min(10 * value + bytes[end] - '0', MAX_NUMBER + 1);
          end++;
        }
      } else {
        token = bytes[start] == ';' ? SIGN : NO_TOKEN;
        end = start + 1;
      }
    }

    private static boolean isLetter(int b) {
      return b >= 'a' && b <= 'z';
    }

    private static boolean isDigit(int b) {
      return b >= '0' && b <= '9';
    }

    private static String nameOfKind(int kind) {
      switch (kind) {
        case HEIR:
          return "heir";
        case WARD:
          return "ward";
        case ELDEST:
          return "eldest";
        case LOST:
          return "lost";
        case TWIN:
          return "twin";
        default:
          return "child";
      }
    }
  }

  /** A row of numbers of so many bits; of 0 bits if it is missing. */
  private static final class Sheet {
    final long[] numbers = new long[MAX_NUMBERS];
    int bits;
    int size;

    boolean isMissing() {
      return bits == 0;
    }

    void lay(int newBits, int newSize) {
      bits = newBits;
      size = newSize;
      for (int i = 0; i < MAX_NUMBERS; i++) {
        numbers[i] = 0;
      }
    }

    void put(int i, long v) {
      if (bits == 8) {
        numbers[i] = (byte) v;
      } else if (bits == 16) {
        numbers[i] = (short) v;
      } else {
        numbers[i] = v;
      }
    }

    /** In longs, since from and n may be any numbers. */
    boolean hasRow(int from, int n) {
      return from >= 0 && n >= 0 && (long) from + n <= size;
    }

    /** A number that is a king, or -1. */
    int holderAt(int i) {
      long v = numbers[i];
      return v >= 0 && v < KINGS ? (int) v : -1;
    }
  }
}
