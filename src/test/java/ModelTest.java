import java.util.ArrayList;
import java.util.Arrays;
import java.util.List;
import java.util.Random;

/**
 * Random runs of calls (with fixed seeds) on the class and on a second model of the document, which
 * is written for plainness alone: whole objects, every month gone through, every order tried.
 */
public final class ModelTest {
  private static final int RUNS = 4000;
  private static final int CALLS = 200;
  /** What later calls answer is free. */
  private static final int MOST_CALLS = 512;

  public static void main(String[] args) {
    int wrong = 0;
    int[] seen = new int[Player.NAMES.length];
    int[] answered = new int[Player.NAMES.length];
    for (int run = 0; run < RUNS && wrong < 10; run++) {
      Player player = new Player(new Random(run), run);
      if (!player.play(CALLS)) {
        wrong++;
        System.out.println(player.report());
      }
      for (int i = 0; i < seen.length; i++) {
        seen[i] += player.seen[i];
        answered[i] += player.answered[i];
      }
    }
    for (int i = 0; i < seen.length; i++) {
      if (answered[i] == 0) {
        wrong++;
        System.out.println(Player.NAMES[i] + " never answered but by a finding");
      }
    }
    System.out.println(Arrays.stream(seen).sum() + " calls beside the model, " + wrong + " runs not as due");
    if (wrong != 0) {
      System.exit(1);
    }
  }

  /** Makes calls on both and compares. */
  private static final class Player {
    static final String[] NAMES = {"fear", "kingOf", "child", "of", "move", "worth", "turn", "as", "dies", "swap",
      "treaty", "treatyOf", "gain", "pledge", "ease", "loose", "pact", "plot", "fall", "wouldFall", "pulls",
      "keystone", "months", "now", "on", "moves", "best", "key", "toFree", "way", "feed", "wipe", "court", "sheet",
      "write", "copy", "lays", "roll", "read", "image", "undo", "tear", "count", "status"};
    final int[] seen = new int[NAMES.length];
    final int[] answered = new int[NAMES.length];
    private final Random random;
    private final int run;
    private final int worths;
    private final HostageKings x = new HostageKings();
    private final Model m = new Model();
    private final List<String> log = new ArrayList<>();

    Player(Random random, int run) {
      this.random = random;
      this.run = run;
      this.worths = random.nextInt(99) + 1;
    }

    String report() {
      int from = Math.max(0, log.size() - 400);
      return "run " + run + ":\n  " + String.join("\n  ", log.subList(from, log.size()));
    }

    boolean play(int calls) {
      for (int i = 0; i < calls; i++) {
        int op = i < 25 ? (random.nextBoolean() ? 2 : 10) : random.nextInt(NAMES.length);
        if (op == 8 && random.nextInt(3) != 0 || op == 18 && random.nextInt(4) != 0 || op == 22 && random.nextInt(4) != 0) {
          op = 4;
        }
        if (op == 30 && random.nextInt(4) != 0) {
          if (!feedText()) {
            return false;
          }
          op = 32;
        }
        if (op == 29 && random.nextBoolean() && !layWay()) {
          return false;
        }
        if (!call(op)) {
          return false;
        }
      }
      return true;
    }

    private boolean feedText() {
      String text = new Writer(random).text();
      for (int i = 0; i < text.length(); i++) {
        if (!call(30, text.charAt(i), 1)) {
          return false;
        }
      }
      return true;
    }

    /** A roll of what is, a few numbers changed. */
    private boolean layWay() {
      int s = random.nextInt(4);
      if (!call(33, s, 8, 14) || !call(37, s)) {
        return false;
      }
      int n = random.nextInt(5) == 0 ? 10 : random.nextInt(6);
      for (int i = 0; i < n; i++) {
        if (!call(34, s, random.nextInt(14), random.nextInt(6))) {
          return false;
        }
      }
      return call(29, s, -1) && call(29, s, random.nextInt(9));
    }

    private int near(int n) {
      int r = random.nextInt(40);
      if (r == 0) {
        return -1;
      }
      if (r == 1) {
        return n;
      }
      if (r == 2) {
        return random.nextInt();
      }
      return random.nextInt(Math.max(1, n));
    }

    private boolean call(int op, int... given) {
      if (log.size() == MOST_CALLS) {
        return true;
      }
      long[] a = given.length > 0 ? new long[given.length] : arguments(op);
      for (int i = 0; i < given.length; i++) {
        a[i] = given[i];
      }
      long got = real(op, a);
      long want = m.act(NAMES[op], a);
      log.add(NAMES[op] + Arrays.toString(a) + " = " + got + (got == want ? "" : ", due is " + want));
      seen[op]++;
      if (want > -1000000000) {
        answered[op]++;
      }
      return got == want;
    }

    private long[] arguments(int op) {
      int c = m.now.children.size();
      int t = m.now.treaties.size();
      switch (NAMES[op]) {
        case "fear": return row(near(6), random.nextBoolean() ? random.nextInt(5) : near(100));
        case "kingOf": return row(near(6), near(4));
        case "child": return row(near(6), random.nextInt(3) > 0 ? random.nextInt(2) : near(6), near(worths));
        case "of": return row(near(c), near(6));
        case "move": return row(near(c), near(6));
        case "worth": return row(near(c), near(100));
        case "turn": return row(near(c), near(6));
        case "as": return row(near(c), near(6));
        case "dies": return row(near(c));
        case "swap": return row(near(c), near(c));
        case "treaty": return row(random.nextInt(3) > 0 ? random.nextInt(2) : near(6), near(6),
            random.nextInt(3) > 0 ? random.nextInt(2 * worths) : near(1000), random.nextBoolean() ? 999 : near(60));
        case "treatyOf": return row(near(t), near(7));
        case "gain": return row(near(t), random.nextBoolean() ? random.nextInt(2 * worths) : near(1000));
        case "pledge": case "pact": case "toFree": return row(near(6), near(6));
        case "ease": case "pulls": return row(near(t));
        case "wouldFall": return row(near(4));
        case "months": return row(random.nextInt(3) == 0 ? near(62) : random.nextInt(4));
        case "now": return row(near(5));
        case "on": return row(near(122));
        case "moves": return row(near(3));
        case "best": return row(near(c));
        case "key": return row(near(6));
        case "way": return row(near(4), near(10) - 1);
        case "feed": return row(random.nextInt(), near(5));
        case "sheet": return row(near(4), new int[] {0, 8, 8, 16, 16, 64, 64, 32}[random.nextInt(8)],
            random.nextBoolean() ? c : near(42));
        case "write": return row(near(4), near(20), random.nextInt(3) == 0 ? random.nextLong() : random.nextInt(8) - 1);
        case "copy": return row(near(4), near(8), near(4), near(8), near(10));
        case "lays": case "roll": case "read": return row(near(4));
        case "count": return row(near(4));
        case "status": return row(near(9) - 1);
        default: return row();
      }
    }

    private static long[] row(long... a) {
      return a;
    }

    private long real(int op, long[] l) {
      int[] a = new int[5];
      for (int i = 0; i < l.length; i++) {
        a[i] = (int) l[i];
      }
      switch (NAMES[op]) {
        case "fear": return x.fear(a[0], a[1]);
        case "kingOf": return x.kingOf(a[0], a[1]);
        case "child": return x.child(a[0], a[1], a[2]);
        case "of": return x.of(a[0], a[1]);
        case "move": return x.move(a[0], a[1]);
        case "worth": return x.worth(a[0], a[1]);
        case "turn": return x.turn(a[0], a[1]);
        case "as": return x.as(a[0], a[1]);
        case "dies": return x.dies(a[0]);
        case "swap": return x.swap(a[0], a[1]);
        case "treaty": return x.treaty(a[0], a[1], a[2], a[3]);
        case "treatyOf": return x.treatyOf(a[0], a[1]);
        case "gain": return x.gain(a[0], a[1]);
        case "pledge": return x.pledge(a[0], a[1]);
        case "ease": return x.ease(a[0]);
        case "loose": return x.loose();
        case "pact": return x.pact(a[0], a[1]);
        case "plot": return x.plot();
        case "fall": return x.fall();
        case "wouldFall": return x.wouldFall(a[0]);
        case "pulls": return x.pulls(a[0]);
        case "keystone": return x.keystone();
        case "months": return x.months(a[0]);
        case "now": return x.now(a[0]);
        case "on": return x.on(a[0]);
        case "moves": return x.moves(a[0]);
        case "best": return x.best(a[0]);
        case "key": return x.key(a[0]);
        case "toFree": return x.toFree(a[0], a[1]);
        case "way": return x.way(a[0], a[1]);
        case "feed": return x.feed(a[0], a[1]);
        case "wipe": return x.wipe();
        case "court": return x.court();
        case "sheet": return x.sheet(a[0], a[1], a[2]);
        case "write": return x.write(a[0], a[1], l[2]);
        case "copy": return x.copy(a[0], a[1], a[2], a[3], a[4]);
        case "lays": return x.lays(a[0]);
        case "roll": return x.roll(a[0]);
        case "read": return x.read(a[0]);
        case "image": return x.image();
        case "undo": return x.undo();
        case "tear": return x.tear();
        case "count": return x.count(a[0]);
        case "status": return x.status(a[0]);
        default: throw new IllegalStateException(NAMES[op]);
      }
    }
  }

  /** Makes texts of courts, some of them with a fault. */
  private static final class Writer {
    private final Random random;

    Writer(Random random) {
      this.random = random;
    }

    String text() {
      StringBuilder b = new StringBuilder();
      int items = 1 + random.nextInt(4);
      for (int i = 0; i < items; i++) {
        b.append(i == 0 ? "" : ";").append(blanks()).append(item());
      }
      b.append(blanks());
      int spoil = random.nextInt(3) == 0 ? 1 + random.nextInt(2) : 0;
      for (int i = 0; i < spoil; i++) {
        int at = random.nextInt(b.length());
        switch (random.nextInt(4)) {
          case 0: b.setCharAt(at, (char) random.nextInt(256)); break;
          case 1: b.deleteCharAt(at); break;
          case 2: b.insert(at, "; a0".charAt(random.nextInt(4))); break;
          default: b.setLength(at + 1); break;
        }
      }
      return b.length() > 120 ? b.substring(0, 120) : b.toString();
    }

    private String blanks() {
      return " ".repeat(random.nextInt(3) == 0 ? random.nextInt(3) : 0);
    }

    private int upTo(int most) {
      return random.nextInt(30) == 0 ? most + 1 : random.nextInt(most + 1);
    }

    private String item() {
      switch (random.nextInt(3)) {
        case 0:
          return "king " + upTo(5) + " fear " + upTo(99);
        case 1:
          return Model.KINDS.get(random.nextInt(6)) + " of " + upTo(5) + (random.nextBoolean() ? " with " + upTo(5) : "")
              + (random.nextBoolean() ? " worth " + upTo(99) : "");
        default:
          return "word " + upTo(5) + " to " + upTo(5) + " gain " + upTo(999)
              + (random.nextBoolean() ? " until " + upTo(999) : "");
      }
    }
  }

  private static final class Child {
    int kind;
    int father;
    int holder;
    int worth;
    boolean dead;
  }

  private static final class Treaty {
    int by;
    int to;
    int gain;
    int until;
    boolean broken;
  }

  /** What section 1 tells. */
  private static final class Court {
    int[] fear = new int[6];
    List<Child> children = new ArrayList<>();
    List<Treaty> treaties = new ArrayList<>();
    int month;

    Court twin() {
      Court other = new Court();
      other.fear = fear.clone();
      other.month = month;
      for (Child c : children) {
        Child d = new Child();
        d.kind = c.kind;
        d.father = c.father;
        d.holder = c.holder;
        d.worth = c.worth;
        d.dead = c.dead;
        other.children.add(d);
      }
      for (Treaty t : treaties) {
        Treaty u = new Treaty();
        u.by = t.by;
        u.to = t.to;
        u.gain = t.gain;
        u.until = t.until;
        u.broken = t.broken;
        other.treaties.add(u);
      }
      return other;
    }

    int lossAs(Child c, int kind) {
      switch (kind) {
        case 0: return c.worth;
        case 1: return 2 * lossAs(c, 0);
        case 2: return lossAs(c, 0) / 2;
        case 3: return lossAs(c, 1) + 20;
        case 4: return Math.max(0, lossAs(c, 2) - 5);
        default:
          boolean other = children.stream()
              .anyMatch(d -> d != c && d.kind == 5 && d.father == c.father && d.holder == d.father && !d.dead);
          return other ? lossAs(c, 1) / 2 : lossAs(c, 1);
      }
    }

    int loss(Child c) {
      return c.dead ? 0 : lossAs(c, c.kind);
    }

    int pledge(int holder, int of) {
      return children.stream().filter(c -> !c.dead && c.father == of && c.holder == holder).mapToInt(this::loss).sum();
    }

    boolean inForce(Treaty t) {
      return !t.broken && !(month > t.until);
    }

    int ease(Treaty t) {
      return pledge(t.to, t.by) + fear[t.by] - t.gain;
    }

    boolean isLoose(Treaty t) {
      return inForce(t) && t.gain > pledge(t.to, t.by) + fear[t.by];
    }

    int loose() {
      int set = 0;
      for (int i = 0; i < treaties.size(); i++) {
        set |= isLoose(treaties.get(i)) ? 1 << i : 0;
      }
      return set;
    }

    void breakIt(Treaty t) {
      t.broken = true;
      for (Child c : children) {
        if (c.father == t.by && c.holder == t.to) {
          c.dead = true;
        }
      }
    }

    int fall() {
      int rounds = 0;
      while (loose() != 0) {
        rounds++;
        int set = loose();
        for (int i = 0; i < treaties.size(); i++) {
          if ((set >> i & 1) != 0) {
            breakIt(treaties.get(i));
          }
        }
      }
      return rounds;
    }

    int broken() {
      int set = 0;
      for (int i = 0; i < treaties.size(); i++) {
        set |= treaties.get(i).broken ? 1 << i : 0;
      }
      return set;
    }

    int dead() {
      int set = 0;
      for (int i = 0; i < children.size(); i++) {
        set |= children.get(i).dead ? 1 << i : 0;
      }
      return set;
    }

    int force() {
      int set = 0;
      for (int i = 0; i < treaties.size(); i++) {
        set |= inForce(treaties.get(i)) ? 1 << i : 0;
      }
      return set;
    }

    void month() {
      fall();
      month++;
    }

    boolean pays(int one, int other) {
      int gains = 0;
      for (Treaty t : treaties) {
        if (inForce(t) && (t.by == one || t.by == other) && t.to != one && t.to != other) {
          gains += t.gain;
        }
      }
      int losses = fear[one] + fear[other];
      for (Child c : children) {
        if ((c.father == one || c.father == other) && c.holder != one && c.holder != other) {
          losses += loss(c);
        }
      }
      return gains > losses;
    }

    Court with(int child, int holder) {
      Court other = twin();
      other.children.get(child).holder = holder;
      return other;
    }
  }

  /** Findings come as a Finding, are counted, and told. */
  private static final class Finding extends RuntimeException {
    private static final long serialVersionUID = 1;
    final int which;

    Finding(int which) {
      super(null, null, false, false);
      this.which = which;
    }
  }

  private static final class Model {
    static final List<String> KINDS = List.of("child", "heir", "ward", "eldest", "lost", "twin");
    Court now = new Court();
    private Court kept;
    private final List<Integer> tape = new ArrayList<>();
    private final long[][] sheets = new long[4][];
    private final int[] bits = new int[4];
    private final int[] counts = new int[7];

    long act(String name, long[] a) {
      try {
        return answer(name, a);
      } catch (Finding f) {
        counts[f.which]++;
        return -1000000001 - f.which;
      }
    }

    private static void refuse(boolean when, int which) {
      if (when) {
        throw new Finding(which);
      }
    }

    private static int within(long v, long least, long most) {
      refuse(v < least || v > most, 0);
      return (int) v;
    }

    private static int king(long v) {
      return within(v, 0, 5);
    }

    private static void unlike(long one, long other) {
      king(one);
      king(other);
      refuse(one == other, 0);
    }

    private Child childAt(long v) {
      return now.children.get(within(v, 0, now.children.size() - 1));
    }

    private Treaty treatyAt(long v) {
      return now.treaties.get(within(v, 0, now.treaties.size() - 1));
    }

    private int sheetAt(long v) {
      int s = within(v, 0, 3);
      refuse(sheets[s] == null, 5);
      return s;
    }

    private long answer(String name, long[] a) {
      switch (name) {
        case "fear": {
          int king = king(a[0]);
          int v = within(a[1], 0, 99);
          int was = now.fear[king];
          now.fear[king] = v;
          return was;
        }
        case "kingOf": return kingOf(king(a[0]), within(a[1], 0, 3));
        case "child": {
          Child c = new Child();
          c.kind = within(a[0], 0, 5);
          c.father = king(a[1]);
          c.holder = c.father;
          c.worth = within(a[2], 0, 99);
          refuse(now.children.size() == 14, 1);
          now.children.add(c);
          return now.children.size() - 1;
        }
        case "of": {
          Child c = childAt(a[0]);
          return new int[] {c.kind, c.father, c.holder, c.worth, c.dead ? 1 : 0, now.loss(c)}[within(a[1], 0, 5)];
        }
        case "move": {
          Child c = childAt(a[0]);
          int to = king(a[1]);
          refuse(c.dead, 4);
          int was = c.holder;
          c.holder = to;
          return was;
        }
        case "worth": {
          Child c = childAt(a[0]);
          int v = within(a[1], 0, 99);
          int was = c.worth;
          c.worth = v;
          return was;
        }
        case "turn": {
          Child c = childAt(a[0]);
          int v = within(a[1], 0, 5);
          int was = c.kind;
          c.kind = v;
          return was;
        }
        case "as": {
          Child c = childAt(a[0]);
          int kind = within(a[1], 0, 5);
          List<List<Integer>> under = List.of(List.of(0, 1, 2, 3, 4, 5), List.of(1, 3, 5), List.of(2, 4), List.of(3),
              List.of(4), List.of(5));
          refuse(!under.get(kind).contains(c.kind), 2);
          return c.holder;
        }
        case "dies": {
          Child c = childAt(a[0]);
          refuse(c.dead, 4);
          int before = now.loose();
          c.dead = true;
          return Integer.bitCount(now.loose() & ~before);
        }
        case "swap": {
          Child c = childAt(a[0]);
          Child d = childAt(a[1]);
          refuse(c == d, 0);
          refuse(c.dead || d.dead, 4);
          int was = c.holder;
          c.holder = d.holder;
          d.holder = was;
          return 1;
        }
        default: return answerOfTreaties(name, a);
      }
    }

    private int kingOf(int king, int what) {
      if (what == 0) {
        return now.fear[king];
      }
      int set = 0;
      if (what == 3) {
        for (int t = 0; t < now.treaties.size(); t++) {
          set |= now.treaties.get(t).by == king && now.inForce(now.treaties.get(t)) ? 1 << t : 0;
        }
        return set;
      }
      for (int i = 0; i < now.children.size(); i++) {
        Child c = now.children.get(i);
        boolean his = what == 1 ? c.father == king : c.father != king && c.holder == king;
        set |= his && !c.dead ? 1 << i : 0;
      }
      return set;
    }

    private long answerOfTreaties(String name, long[] a) {
      switch (name) {
        case "treaty": {
          unlike(a[0], a[1]);
          Treaty t = new Treaty();
          t.by = king(a[0]);
          t.to = king(a[1]);
          t.gain = within(a[2], 0, 999);
          t.until = within(a[3], 0, 999);
          refuse(now.treaties.size() == 12, 1);
          now.treaties.add(t);
          return now.treaties.size() - 1;
        }
        case "treatyOf": {
          Treaty t = treatyAt(a[0]);
          return new int[] {t.by, t.to, t.gain, t.until, t.broken ? 1 : 0, now.inForce(t) ? 1 : 0,
            now.isLoose(t) ? 1 : 0}[within(a[1], 0, 6)];
        }
        case "gain": {
          Treaty t = treatyAt(a[0]);
          int v = within(a[1], 0, 999);
          int was = t.gain;
          t.gain = v;
          return was;
        }
        case "pledge":
          unlike(a[0], a[1]);
          return now.pledge((int) a[0], (int) a[1]);
        case "ease": {
          Treaty t = treatyAt(a[0]);
          refuse(!now.inForce(t), 4);
          return now.ease(t);
        }
        case "loose": return now.loose();
        case "pact":
          unlike(a[0], a[1]);
          return now.pays((int) a[0], (int) a[1]) ? 1 : 0;
        case "plot":
          for (int pair = 0; pair < 60; pair++) {
            if (pair % 10 < 6 && pair / 10 < pair % 10 && now.pays(pair / 10, pair % 10)) {
              return pair;
            }
          }
          throw new Finding(3);
        default: return answerOfFalls(name, a);
      }
    }

    private long answerOfFalls(String name, long[] a) {
      switch (name) {
        case "fall": return now.fall();
        case "wouldFall": {
          int what = within(a[0], 0, 3);
          Court then = now.twin();
          int first = then.loose();
          int rounds = then.fall();
          return new int[] {rounds, then.broken() & ~now.broken(), then.dead() & ~now.dead(), first}[what];
        }
        case "pulls": {
          Treaty t = treatyAt(a[0]);
          refuse(!now.inForce(t), 4);
          return pulls((int) a[0]);
        }
        case "keystone": {
          int found = -1;
          for (int t = now.treaties.size() - 1; t >= 0; t--) {
            if (now.inForce(now.treaties.get(t))
                && (found < 0 || Integer.bitCount(pulls(t)) >= Integer.bitCount(pulls(found)))) {
              found = t;
            }
          }
          refuse(found < 0, 3);
          return found;
        }
        case "months": {
          int n = within(a[0], 1, 60);
          refuse(now.month + n > 999, 4);
          int before = Integer.bitCount(now.broken());
          for (int i = 0; i < n; i++) {
            now.month();
          }
          return Integer.bitCount(now.broken()) - before;
        }
        case "now": {
          int what = within(a[0], 0, 4);
          int living = (int) now.children.stream().filter(c -> !c.dead).count();
          int home = (int) now.children.stream().filter(c -> !c.dead && c.holder == c.father).count();
          return new int[] {now.month, Integer.bitCount(now.force()), Integer.bitCount(now.broken()), living, home}[what];
        }
        case "on": {
          int n = within(a[0], 0, 120);
          refuse(now.month + n > 999, 4);
          Court then = now.twin();
          for (int i = 0; i < n; i++) {
            then.month();
          }
          return then.force();
        }
        default: return answerOfMoves(name, a);
      }
    }

    private int pulls(int t) {
      Court then = now.twin();
      then.breakIt(then.treaties.get(t));
      then.fall();
      return then.broken() & ~now.broken();
    }

    private long answerOfMoves(String name, long[] a) {
      switch (name) {
        case "moves": {
          int what = within(a[0], 0, 2);
          List<Integer> plan = plan();
          refuse(plan == null || what > plan.size(), 3);
          return what == 0 ? plan.size() : plan.get(what - 1);
        }
        case "best": {
          Child c = childAt(a[0]);
          refuse(c.dead, 4);
          int found = 5;
          for (int h = 4; h >= 0; h--) {
            int here = Integer.bitCount(now.with((int) a[0], h).loose());
            found = here <= Integer.bitCount(now.with((int) a[0], found).loose()) ? h : found;
          }
          return found;
        }
        case "key": {
          int king = king(a[0]);
          int found = -1;
          int most = 0;
          for (int c = 0; c < now.children.size(); c++) {
            if (now.children.get(c).father == king && !now.children.get(c).dead) {
              int more = Integer.bitCount(now.with(c, king).loose() & ~now.loose());
              found = more > most ? c : found;
              most = Math.max(most, more);
            }
          }
          refuse(found < 0, 3);
          return found;
        }
        case "toFree": {
          unlike(a[0], a[1]);
          int set = 0;
          for (int c = 0; c < now.children.size(); c++) {
            Child d = now.children.get(c);
            set |= !d.dead && d.father == a[0] && d.holder == a[1] ? 1 << c : 0;
          }
          return now.treaties.stream().anyMatch(t -> now.inForce(t) && t.by == a[0] && t.to == a[1]) ? set : 0;
        }
        case "way": return way(sheetAt(a[0]), a[1]);
        default: return answerOfTexts(name, a);
      }
    }

    private List<Integer> plan() {
      if (now.loose() == 0) {
        return List.of();
      }
      int n = 6 * now.children.size();
      for (int one = 0; one < n; one++) {
        if (canMove(one) && now.with(one / 6, one % 6).loose() == 0) {
          return List.of(one);
        }
      }
      for (int one = 0; one < n; one++) {
        if (!canMove(one)) {
          continue;
        }
        Court half = now.with(one / 6, one % 6);
        for (int two = 6 * (one / 6 + 1); two < n; two++) {
          if (!canMove(two)) {
            continue;
          }
          Child second = half.children.get(two / 6);
          int was = second.holder;
          second.holder = two % 6;
          if (half.loose() == 0) {
            return List.of(one, two);
          }
          second.holder = was;
        }
      }
      return null;
    }

    private boolean canMove(int code) {
      Child c = now.children.get(code / 6);
      return !c.dead && c.holder != code % 6;
    }

    private long way(int s, long told) {
      int what = within(told, -1, 7);
      List<Integer> movers = new ArrayList<>();
      for (int i = 0; i < sheets[s].length && i < now.children.size(); i++) {
        if (sheets[s][i] >= 0 && sheets[s][i] <= 5 && sheets[s][i] != now.children.get(i).holder) {
          movers.add(i);
        }
      }
      refuse(movers.size() > 8, 6);
      refuse(movers.stream().anyMatch(c -> now.children.get(c).dead), 4);
      List<Integer> order = new ArrayList<>();
      refuse(!walk(now.twin(), movers, sheets[s], order), 3);
      refuse(what >= order.size(), 3);
      return what < 0 ? order.size() : order.get(what);
    }

    private static boolean walk(Court court, List<Integer> movers, long[] aims, List<Integer> order) {
      if (order.size() == movers.size()) {
        return true;
      }
      for (int c : movers) {
        if (order.contains(c)) {
          continue;
        }
        int was = court.children.get(c).holder;
        court.children.get(c).holder = (int) aims[c];
        order.add(c);
        if (court.loose() == 0 && walk(court, movers, aims, order)) {
          return true;
        }
        order.remove(order.size() - 1);
        court.children.get(c).holder = was;
      }
      return false;
    }

    private long answerOfTexts(String name, long[] a) {
      switch (name) {
        case "feed": {
          int n = within(a[1], 1, 4);
          refuse(tape.size() + n > 120, 1);
          long[] all = {a[0] >> 24 & 255, a[0] >> 16 & 255, a[0] >> 8 & 255, a[0] & 255};
          for (int i = 4 - n; i < 4; i++) {
            tape.add((int) all[i]);
          }
          return tape.size();
        }
        case "wipe": {
          int had = tape.size();
          tape.clear();
          return had;
        }
        case "court": {
          StringBuilder text = new StringBuilder();
          for (int b : tape) {
            text.append((char) b);
          }
          tape.clear();
          Grammar grammar = new Grammar(text.toString(), now.twin());
          int items = grammar.text();
          if (items < 0) {
            return -1 - grammar.faultAt();
          }
          now = grammar.court;
          return items;
        }
        default: return answerOfSheets(name, a);
      }
    }

    private long cut(int s, long v) {
      return bits[s] == 64 ? v : v << 64 - bits[s] >> 64 - bits[s];
    }

    private long answerOfSheets(String name, long[] a) {
      switch (name) {
        case "sheet": {
          int s = within(a[0], 0, 3);
          refuse(!List.of(0L, 8L, 16L, 64L).contains(a[1]), 0);
          refuse(a[2] < 0, 6);
          within(a[2], 0, 40);
          bits[s] = (int) a[1];
          sheets[s] = a[1] == 0 ? null : new long[(int) a[2]];
          return a[1] == 0 ? 0 : a[2];
        }
        case "write": {
          int s = sheetAt(a[0]);
          int i = within(a[1], 0, sheets[s].length - 1);
          long was = sheets[s][i];
          sheets[s][i] = cut(s, a[2]);
          return was;
        }
        case "copy": {
          int s = within(a[0], 0, 3);
          int t = within(a[2], 0, 3);
          refuse(sheets[s] == null || sheets[t] == null, 5);
          refuse(bits[s] != bits[t], 2);
          refuse(a[1] < 0 || a[3] < 0 || a[4] < 0, 0);
          refuse(a[1] + a[4] > sheets[s].length || a[3] + a[4] > sheets[t].length, 0);
          long[] was = sheets[s].clone();
          for (int i = 0; i < a[4]; i++) {
            sheets[t][(int) a[3] + i] = was[(int) a[1] + i];
          }
          return a[4];
        }
        case "lays": {
          int s = sheetAt(a[0]);
          int laid = 0;
          for (int i = 0; i < sheets[s].length; i++) {
            if (sheets[s][i] >= 0 && sheets[s][i] <= 5 && i < now.children.size() && !now.children.get(i).dead) {
              now.children.get(i).holder = (int) sheets[s][i];
              laid++;
            }
          }
          return laid;
        }
        case "roll": {
          int s = sheetAt(a[0]);
          int i = 0;
          for (; i < sheets[s].length && i < now.children.size(); i++) {
            sheets[s][i] = rolled(i);
          }
          return i;
        }
        case "read": {
          int s = sheetAt(a[0]);
          for (int i = 0; i < sheets[s].length; i++) {
            if (i >= now.children.size() || sheets[s][i] != rolled(i)) {
              return 1 + i;
            }
          }
          return sheets[s].length == now.children.size() ? 0 : 1 + sheets[s].length;
        }
        default: return answerOfImages(name, a);
      }
    }

    private int rolled(int i) {
      return now.children.get(i).dead ? -1 : now.children.get(i).holder;
    }

    private long answerOfImages(String name, long[] a) {
      switch (name) {
        case "image":
          kept = now.twin();
          return 1;
        case "undo":
          refuse(kept == null, 3);
          now = kept.twin();
          return now.children.size();
        case "tear": {
          int had = kept == null ? 0 : 1;
          kept = null;
          return had;
        }
        case "count": {
          int abroad = now.children.stream().filter(c -> c.holder != c.father).mapToInt(now::loss).sum();
          return new int[] {now.children.size(), now.treaties.size(), tape.size(), abroad}[within(a[0], 0, 3)];
        }
        case "status":
          return within(a[0], -1, 6) < 0 ? Arrays.stream(counts).sum() : counts[(int) a[0]];
        default: throw new IllegalStateException(name);
      }
    }
  }

  /** The text, all its tokens taken first, then walked through. */
  private static final class Grammar {
    final Court court;
    private final List<String> tokens = new ArrayList<>();
    private final List<Integer> places = new ArrayList<>();
    private int at = 0;

    Grammar(String text, Court court) {
      this.court = court;
      java.util.regex.Matcher matcher = java.util.regex.Pattern.compile("[a-z]+|[0-9]+|[^ ]", java.util.regex.Pattern.DOTALL).matcher(text);
      while (matcher.find()) {
        tokens.add(matcher.group());
        places.add(matcher.start());
      }
      tokens.add("");
      places.add(text.length());
    }

    int faultAt() {
      return places.get(at);
    }

    private boolean take(String word) {
      boolean is = tokens.get(at).equals(word);
      at += is ? 1 : 0;
      return is;
    }

    private int number(int most) {
      String token = tokens.get(at);
      if (!token.matches("[0-9]+") || new java.math.BigInteger(token).compareTo(java.math.BigInteger.valueOf(most)) > 0) {
        return -1;
      }
      at++;
      return Integer.parseInt(token);
    }

    int text() {
      int items = 0;
      do {
        if (!item()) {
          return -1;
        }
        items++;
      } while (take(";"));
      return tokens.get(at).isEmpty() ? items : -1;
    }

    private boolean item() {
      int kind = Model.KINDS.indexOf(tokens.get(at));
      if (kind >= 0) {
        return court.children.size() < 14 && child(kind);
      }
      if (tokens.get(at).equals("word")) {
        return court.treaties.size() < 12 && word();
      }
      if (!take("king")) {
        return false;
      }
      int king = number(5);
      if (king < 0 || !take("fear")) {
        return false;
      }
      int fear = number(99);
      if (fear >= 0) {
        court.fear[king] = fear;
      }
      return fear >= 0;
    }

    private boolean child(int kind) {
      at++;
      Child c = new Child();
      c.kind = kind;
      c.worth = 10;
      if (!take("of") || (c.father = number(5)) < 0) {
        return false;
      }
      c.holder = c.father;
      if (take("with") && (c.holder = number(5)) < 0 || take("worth") && (c.worth = number(99)) < 0) {
        return false;
      }
      court.children.add(c);
      return true;
    }

    private boolean word() {
      at++;
      Treaty t = new Treaty();
      t.until = 999;
      if ((t.by = number(5)) < 0 || !take("to") || (t.to = number(5)) < 0) {
        return false;
      }
      if (t.by == t.to) {
        at--;
        return false;
      }
      if (!take("gain") || (t.gain = number(999)) < 0 || take("until") && (t.until = number(999)) < 0) {
        return false;
      }
      court.treaties.add(t);
      return true;
    }
  }
}
