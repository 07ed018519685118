import java.lang.reflect.InvocationTargetException;
import java.lang.reflect.Method;
import java.lang.reflect.Modifier;
import java.util.ArrayList;
import java.util.Arrays;
import java.util.Comparator;
import java.util.HashSet;
import java.util.List;
import java.util.Set;

/**
 * "Each act tells its findings in the order in which they are asked; one that answers a finding
 * changes nothing but status()": each refused call is made on one of two objects of the same past,
 * and everything that can be asked of both is asked then. So are the calls that only ask.
 */
public final class RefusalsTest {
  private static final int BEYOND = -1000000001;
  private static final int FULL = -1000000002;
  private static final int KIND = -1000000003;
  private static final int NONE = -1000000004;
  private static final int STATE = -1000000005;
  private static final int MISSING = -1000000006;
  private static final int SIZE = -1000000007;
  private static final int MIN = Integer.MIN_VALUE;
  private static final int MAX = Integer.MAX_VALUE;
  private static final int[] NO_KINGS = {-1, 6, MIN, MAX};
  private static final int[] NO_SHEETS = {-1, 4, MIN, MAX};

  /** What an object has gone through ahead of the call. */
  private enum Past { EMPTY, COURT, FULL_COURT, LAST_MONTH, MENDABLE, TORN }

  private interface Call {
    long on(HostageKings x);
  }

  private static int calls = 0;
  private static int wrong = 0;
  private static final Set<String> refusals = new HashSet<>();

  public static void main(String[] args) throws Exception {
    kingsAndChildren();
    treaties();
    falls();
    moves();
    theText();
    sheets();
    images();
    questions();
    faults();
    everyFindingOfTheDocument();
    farArguments();
    System.out.println(calls + " calls refused or asking, " + wrong + " not as due");
    if (wrong != 0) {
      System.exit(1);
    }
  }

  private static void fail(String what) {
    wrong++;
    System.out.println(what);
  }

  // ---- what objects go through

  private static HostageKings made(Past past) {
    HostageKings x = new HostageKings();
    switch (past) {
      case COURT:
        court(x);
        break;
      case FULL_COURT:
        fullCourt(x);
        break;
      case LAST_MONTH:
        court(x);
        for (int i = 0; i < 16; i++) {
          x.months(60);
        }
        x.months(38);
        x.treaty(1, 0, 99, 999);
        break;
      case MENDABLE:
        court(x);
        mendable(x);
        break;
      case TORN:
        court(x);
        x.tear();
        break;
      default:
        break;
    }
    return x;
  }

  private static void abroad(HostageKings x, int kind, int father, int holder, int worth) {
    x.move(x.child(kind, father, worth), holder);
  }

  private static void feedAll(HostageKings x, String text) {
    for (int i = 0; i < text.length(); i++) {
      x.feed(text.charAt(i), 1);
    }
  }

  /**
   * Children 0 to 6, of which 6 is dead; treaties 0 (broken), 1 (over), 2 (holds), 3 (loose); month
   * 1; an image of another state; a text on the tape; sheets of 8, 16 and 64 bits, one missing.
   */
  private static void court(HostageKings x) {
    x.fear(0, 3);
    x.fear(5, 7);
    abroad(x, 0, 0, 1, 10);
    abroad(x, 1, 0, 1, 20);
    abroad(x, 2, 1, 0, 30);
    x.child(3, 2, 40);
    x.child(5, 3, 50);
    abroad(x, 5, 3, 4, 60);
    x.treaty(5, 4, 8, 999);
    x.treaty(2, 3, 0, 0);
    x.image();
    x.fear(1, 9);
    abroad(x, 4, 4, 5, 70);
    x.dies(6);
    x.treaty(0, 1, 53, 999);
    x.months(1);
    x.treaty(1, 0, 99, 999);
    feedAll(x, "king 2 fear 9");
    x.sheet(0, 8, 7);
    x.sheet(1, 16, 3);
    x.sheet(2, 64, 0);
    x.roll(0);
    x.write(0, 0, 5);
    x.write(1, 2, 300);
  }

  /** Child 7 with king 0 would make all hold; sheet 3 tells such a way, sheet 1 one of a dead child. */
  private static void mendable(HostageKings x) {
    x.child(1, 1, 40);
    x.sheet(3, 8, 8);
    x.roll(3);
    x.write(3, 3, 5);
    x.write(3, 7, 0);
    x.sheet(1, 16, 7);
    x.roll(1);
    x.write(1, 6, 0);
  }

  private static void fullCourt(HostageKings x) {
    for (int c = 0; c < 14; c++) {
      abroad(x, c % 6, c % 2, 2 + c % 3, 10 + c);
    }
    for (int t = 0; t < 12; t++) {
      x.treaty(t % 2, 2 + t % 3, t, 999);
    }
    x.image();
    x.dies(13);
    feedAll(x, "king 3 fear 44;king 4 fear 55");
    for (int i = 0; i < 22; i++) {
      x.feed(0x20202020, 4);
    }
    feedAll(x, "   ");
    x.sheet(0, 8, 40);
    x.sheet(1, 16, 40);
    x.sheet(2, 64, 40);
    x.sheet(3, 64, 40);
    x.write(0, 39, -1);
    x.write(1, 39, -2);
    x.write(2, 39, Long.MIN_VALUE);
    x.write(3, 0, Long.MAX_VALUE);
  }

  // ---- what can be asked of an object

  private static final int PARTS = 4;

  /** Each part is asked of an object of its own, since some of what is asked changes it. */
  private static List<String> seen(HostageKings x, int part) {
    List<String> lines = new ArrayList<>();
    switch (part) {
      case 0:
        seeCourt(x, lines);
        break;
      case 1:
        seeSheets(x, lines);
        break;
      case 2:
        lines.add("count(2) = " + x.count(2));
        lines.add("court() = " + x.court());
        seeCourt(x, lines);
        break;
      default:
        lines.add("undo() = " + x.undo());
        lines.add("tear() = " + x.tear());
        seeCourt(x, lines);
        break;
    }
    return lines;
  }

  private static void seeCourt(HostageKings x, List<String> lines) {
    for (int what = 0; what < 4; what++) {
      lines.add("count(" + what + ") = " + x.count(what));
      for (int king = 0; king < 6; king++) {
        lines.add("kingOf(" + king + ", " + what + ") = " + x.kingOf(king, what));
      }
    }
    for (int what = 0; what < 5; what++) {
      lines.add("now(" + what + ") = " + x.now(what));
    }
    for (int c = 0; c < x.count(0); c++) {
      for (int what = 0; what < 6; what++) {
        lines.add("of(" + c + ", " + what + ") = " + x.of(c, what));
      }
    }
    for (int t = 0; t < x.count(1); t++) {
      for (int what = 0; what < 7; what++) {
        lines.add("treatyOf(" + t + ", " + what + ") = " + x.treatyOf(t, what));
      }
    }
  }

  private static void seeSheets(HostageKings x, List<String> lines) {
    for (int s = 0; s < 4; s++) {
      for (int i = 0; i <= 40; i++) {
        long was = x.write(s, i, 1L << 20 | 1L << 12 | 1);
        lines.add("write(" + s + ", " + i + ", ..) = " + was);
        if (was == MISSING || was == BEYOND) {
          break;
        }
      }
      lines.add("bits of " + s + ": " + x.write(s, 0, 0));
    }
  }

  private static int[] statuses(HostageKings x) {
    int[] all = new int[8];
    for (int which = -1; which < 7; which++) {
      all[which + 1] = x.status(which);
    }
    return all;
  }

  // ---- how it is asked

  private static void refused(Past past, int finding, String name, Call call) {
    refusals.add(name.substring(0, name.indexOf('(')) + " " + finding);
    HostageKings x = made(past);
    int[] before = statuses(x);
    long got = call.on(x);
    if (got != finding) {
      fail(past + ": " + name + " answered " + got + ", due is " + finding);
    }
    int[] then = statuses(x);
    for (int which = -1; which < 7; which++) {
      int more = which == -1 || which == BEYOND - finding ? 1 : 0;
      if (then[which + 1] != before[which + 1] + more) {
        fail(past + ": status(" + which + ") went from " + before[which + 1] + " to " + then[which + 1] + " by " + name);
      }
    }
    unchanged(past, name, call);
  }

  /** A call that only asks, and finds nothing amiss. */
  private static void asks(Past past, String name, Call call) {
    HostageKings x = made(past);
    int before = x.status(-1);
    long got = call.on(x);
    if (got <= BEYOND || x.status(-1) != before) {
      fail(past + ": " + name + " answered " + got + ", a finding");
    }
    unchanged(past, name, call);
  }

  private static void unchanged(Past past, String name, Call call) {
    calls++;
    for (int part = 0; part < PARTS; part++) {
      HostageKings x = made(past);
      call.on(x);
      List<String> got = seen(x, part);
      List<String> want = seen(made(past), part);
      if (got.size() != want.size()) {
        fail(past + ": behind " + name + " there is more or less than there was");
      }
      for (int i = 0; i < got.size() && i < want.size(); i++) {
        if (!got.get(i).equals(want.get(i))) {
          fail(past + ": behind " + name + ", " + got.get(i) + ", without it " + want.get(i));
          break;
        }
      }
    }
  }

  // ---- refused calls

  private static void kingsAndChildren() {
    for (int king : NO_KINGS) {
      refused(Past.COURT, BEYOND, "fear(" + king + ", 1)", x -> x.fear(king, 1));
      refused(Past.COURT, BEYOND, "kingOf(" + king + ", 1)", x -> x.kingOf(king, 1));
      refused(Past.COURT, BEYOND, "child(0, " + king + ", 1)", x -> x.child(0, king, 1));
      refused(Past.FULL_COURT, BEYOND, "child(0, " + king + ", 1)", x -> x.child(0, king, 1));
      refused(Past.COURT, BEYOND, "move(0, " + king + ")", x -> x.move(0, king));
      refused(Past.COURT, BEYOND, "move(6, " + king + ") of a dead one", x -> x.move(6, king));
    }
    for (int v : new int[] {-1, 100, MIN, MAX}) {
      refused(Past.COURT, BEYOND, "fear(0, " + v + ")", x -> x.fear(0, v));
      refused(Past.COURT, BEYOND, "child(0, 0, " + v + ")", x -> x.child(0, 0, v));
      refused(Past.FULL_COURT, BEYOND, "child(0, 0, " + v + ")", x -> x.child(0, 0, v));
      refused(Past.COURT, BEYOND, "worth(0, " + v + ")", x -> x.worth(0, v));
    }
    for (int kind : new int[] {-1, 6, MIN, MAX}) {
      refused(Past.COURT, BEYOND, "child(" + kind + ", 0, 1)", x -> x.child(kind, 0, 1));
      refused(Past.FULL_COURT, BEYOND, "child(" + kind + ", 0, 1)", x -> x.child(kind, 0, 1));
      refused(Past.COURT, BEYOND, "turn(0, " + kind + ")", x -> x.turn(0, kind));
      refused(Past.COURT, BEYOND, "as(0, " + kind + ")", x -> x.as(0, kind));
    }
    refused(Past.FULL_COURT, FULL, "child(0, 0, 1)", x -> x.child(0, 0, 1));
    refused(Past.COURT, BEYOND, "kingOf(0, 4)", x -> x.kingOf(0, 4));
    refused(Past.COURT, BEYOND, "kingOf(0, -1)", x -> x.kingOf(0, -1));
    refused(Past.COURT, BEYOND, "of(0, 6)", x -> x.of(0, 6));
    refused(Past.COURT, BEYOND, "of(0, -1)", x -> x.of(0, -1));
    noSuchChild(Past.EMPTY, -1, 0, 14, MIN, MAX);
    noSuchChild(Past.COURT, -1, 7, 14, MIN, MAX);
    noSuchChild(Past.FULL_COURT, -1, 14, 32, MIN, MAX);
    refused(Past.COURT, STATE, "move(6, 0)", x -> x.move(6, 0));
    refused(Past.COURT, STATE, "dies(6)", x -> x.dies(6));
    refused(Past.COURT, KIND, "as(0, 1)", x -> x.as(0, 1));
    refused(Past.COURT, KIND, "as(3, 5)", x -> x.as(3, 5));
    refused(Past.COURT, KIND, "as(6, 3)", x -> x.as(6, 3));
    refused(Past.COURT, BEYOND, "swap(0, 0)", x -> x.swap(0, 0));
    refused(Past.COURT, BEYOND, "swap(6, 6), BEYOND ahead of STATE", x -> x.swap(6, 6));
    refused(Past.COURT, BEYOND, "swap(6, 7), BEYOND ahead of STATE", x -> x.swap(6, 7));
    refused(Past.COURT, BEYOND, "swap(7, 6), BEYOND ahead of STATE", x -> x.swap(7, 6));
    refused(Past.COURT, STATE, "swap(0, 6)", x -> x.swap(0, 6));
    refused(Past.COURT, STATE, "swap(6, 0)", x -> x.swap(6, 0));
    refused(Past.FULL_COURT, STATE, "swap(13, 0)", x -> x.swap(13, 0));
  }

  private static void noSuchChild(Past past, int... children) {
    for (int c : children) {
      refused(past, BEYOND, "of(" + c + ", 2)", x -> x.of(c, 2));
      refused(past, BEYOND, "move(" + c + ", 2)", x -> x.move(c, 2));
      refused(past, BEYOND, "worth(" + c + ", 2)", x -> x.worth(c, 2));
      refused(past, BEYOND, "turn(" + c + ", 2)", x -> x.turn(c, 2));
      refused(past, BEYOND, "as(" + c + ", 0)", x -> x.as(c, 0));
      refused(past, BEYOND, "dies(" + c + ")", x -> x.dies(c));
      refused(past, BEYOND, "swap(" + c + ", 1)", x -> x.swap(c, 1));
      refused(past, BEYOND, "swap(1, " + c + ")", x -> x.swap(1, c));
      refused(past, BEYOND, "best(" + c + ")", x -> x.best(c));
    }
  }

  private static void treaties() {
    for (int king : NO_KINGS) {
      for (Past past : new Past[] {Past.COURT, Past.FULL_COURT}) {
        refused(past, BEYOND, "treaty(" + king + ", 1, 1, 1)", x -> x.treaty(king, 1, 1, 1));
        refused(past, BEYOND, "treaty(1, " + king + ", 1, 1)", x -> x.treaty(1, king, 1, 1));
      }
      refused(Past.COURT, BEYOND, "pledge(" + king + ", 1)", x -> x.pledge(king, 1));
      refused(Past.COURT, BEYOND, "pledge(1, " + king + ")", x -> x.pledge(1, king));
      refused(Past.COURT, BEYOND, "pact(" + king + ", 1)", x -> x.pact(king, 1));
      refused(Past.COURT, BEYOND, "pact(1, " + king + ")", x -> x.pact(1, king));
    }
    for (int v : new int[] {-1, 1000, MIN, MAX}) {
      for (Past past : new Past[] {Past.COURT, Past.FULL_COURT}) {
        refused(past, BEYOND, "treaty(0, 1, " + v + ", 1)", x -> x.treaty(0, 1, v, 1));
        refused(past, BEYOND, "treaty(0, 1, 1, " + v + ")", x -> x.treaty(0, 1, 1, v));
      }
      refused(Past.COURT, BEYOND, "gain(2, " + v + ")", x -> x.gain(2, v));
    }
    refused(Past.COURT, BEYOND, "treaty(2, 2, 1, 1)", x -> x.treaty(2, 2, 1, 1));
    refused(Past.FULL_COURT, BEYOND, "treaty(2, 2, 1, 1)", x -> x.treaty(2, 2, 1, 1));
    refused(Past.FULL_COURT, FULL, "treaty(2, 1, 1, 1)", x -> x.treaty(2, 1, 1, 1));
    refused(Past.COURT, BEYOND, "pledge(1, 1)", x -> x.pledge(1, 1));
    refused(Past.COURT, BEYOND, "pact(1, 1)", x -> x.pact(1, 1));
    refused(Past.COURT, BEYOND, "treatyOf(2, 7)", x -> x.treatyOf(2, 7));
    refused(Past.COURT, BEYOND, "treatyOf(2, -1)", x -> x.treatyOf(2, -1));
    noSuchTreaty(Past.EMPTY, -1, 0, 12, MIN, MAX);
    noSuchTreaty(Past.COURT, -1, 4, 12, MIN, MAX);
    noSuchTreaty(Past.FULL_COURT, -1, 12, 32, MIN, MAX);
    refused(Past.COURT, STATE, "ease(0) of a broken one", x -> x.ease(0));
    refused(Past.COURT, STATE, "ease(1) of one that is over", x -> x.ease(1));
    refused(Past.EMPTY, NONE, "plot()", x -> x.plot());
  }

  private static void noSuchTreaty(Past past, int... treaties) {
    for (int t : treaties) {
      refused(past, BEYOND, "treatyOf(" + t + ", 2)", x -> x.treatyOf(t, 2));
      refused(past, BEYOND, "gain(" + t + ", 2)", x -> x.gain(t, 2));
      refused(past, BEYOND, "ease(" + t + ")", x -> x.ease(t));
      refused(past, BEYOND, "pulls(" + t + ")", x -> x.pulls(t));
    }
  }

  private static void falls() {
    for (int what : new int[] {-1, 4, MIN, MAX}) {
      refused(Past.COURT, BEYOND, "wouldFall(" + what + ")", x -> x.wouldFall(what));
    }
    refused(Past.COURT, STATE, "pulls(0) of a broken one", x -> x.pulls(0));
    refused(Past.COURT, STATE, "pulls(1) of one that is over", x -> x.pulls(1));
    refused(Past.EMPTY, NONE, "keystone()", x -> x.keystone());
    for (int n : new int[] {0, -1, 61, MIN, MAX}) {
      refused(Past.COURT, BEYOND, "months(" + n + ")", x -> x.months(n));
      refused(Past.LAST_MONTH, BEYOND, "months(" + n + "), BEYOND ahead of STATE", x -> x.months(n));
    }
    refused(Past.LAST_MONTH, STATE, "months(1)", x -> x.months(1));
    refused(Past.LAST_MONTH, STATE, "months(60)", x -> x.months(60));
    for (int what : new int[] {-1, 5, MIN, MAX}) {
      refused(Past.COURT, BEYOND, "now(" + what + ")", x -> x.now(what));
    }
    for (int n : new int[] {-1, 121, MIN, MAX}) {
      refused(Past.COURT, BEYOND, "on(" + n + ")", x -> x.on(n));
      refused(Past.LAST_MONTH, BEYOND, "on(" + n + "), BEYOND ahead of STATE", x -> x.on(n));
    }
    refused(Past.LAST_MONTH, STATE, "on(1)", x -> x.on(1));
    refused(Past.LAST_MONTH, STATE, "on(120)", x -> x.on(120));
  }

  private static void moves() {
    for (int what : new int[] {-1, 3, MIN, MAX}) {
      refused(Past.COURT, BEYOND, "moves(" + what + ")", x -> x.moves(what));
      refused(Past.EMPTY, BEYOND, "moves(" + what + ")", x -> x.moves(what));
    }
    refused(Past.EMPTY, NONE, "moves(1)", x -> x.moves(1));
    refused(Past.EMPTY, NONE, "moves(2)", x -> x.moves(2));
    refused(Past.COURT, NONE, "moves(0)", x -> x.moves(0));
    refused(Past.COURT, NONE, "moves(1)", x -> x.moves(1));
    refused(Past.COURT, NONE, "moves(2)", x -> x.moves(2));
    refused(Past.COURT, STATE, "best(6)", x -> x.best(6));
    for (int king : NO_KINGS) {
      refused(Past.COURT, BEYOND, "key(" + king + ")", x -> x.key(king));
      refused(Past.COURT, BEYOND, "toFree(" + king + ", 1)", x -> x.toFree(king, 1));
      refused(Past.COURT, BEYOND, "toFree(1, " + king + ")", x -> x.toFree(1, king));
    }
    refused(Past.EMPTY, NONE, "key(0)", x -> x.key(0));
    refused(Past.COURT, NONE, "key(1)", x -> x.key(1));
    refused(Past.COURT, BEYOND, "toFree(1, 1)", x -> x.toFree(1, 1));
    for (int s : NO_SHEETS) {
      refused(Past.COURT, BEYOND, "way(" + s + ", -1)", x -> x.way(s, -1));
      refused(Past.COURT, BEYOND, "way(" + s + ", 8)", x -> x.way(s, 8));
    }
    for (int what : new int[] {-2, 8, MIN, MAX}) {
      refused(Past.COURT, MISSING, "way(3, " + what + "), MISSING ahead of BEYOND", x -> x.way(3, what));
      refused(Past.COURT, BEYOND, "way(0, " + what + ")", x -> x.way(0, what));
      refused(Past.FULL_COURT, BEYOND, "way(0, " + what + "), BEYOND ahead of SIZE", x -> x.way(0, what));
    }
    refused(Past.COURT, MISSING, "way(3, -1)", x -> x.way(3, -1));
    refused(Past.COURT, NONE, "way(0, -1)", x -> x.way(0, -1));
    refused(Past.COURT, NONE, "way(0, 0)", x -> x.way(0, 0));
    refused(Past.COURT, NONE, "way(2, 0) has not so many", x -> x.way(2, 0));
    refused(Past.FULL_COURT, SIZE, "way(0, -1), a dead one among fourteen", x -> x.way(0, -1));
    refused(Past.FULL_COURT, SIZE, "way(0, 7)", x -> x.way(0, 7));
    refused(Past.MENDABLE, STATE, "way(1, -1)", x -> x.way(1, -1));
    refused(Past.MENDABLE, STATE, "way(1, 0)", x -> x.way(1, 0));
    refused(Past.MENDABLE, BEYOND, "way(1, 8), BEYOND ahead of STATE", x -> x.way(1, 8));
    refused(Past.MENDABLE, NONE, "way(3, 2) has not so many", x -> x.way(3, 2));
    refused(Past.MENDABLE, NONE, "moves(2) has not so many", x -> x.moves(2));
  }

  private static void theText() {
    for (int n : new int[] {0, -1, 5, MIN, MAX}) {
      refused(Past.EMPTY, BEYOND, "feed(65, " + n + ")", x -> x.feed(65, n));
      refused(Past.COURT, BEYOND, "feed(65, " + n + ")", x -> x.feed(65, n));
      refused(Past.FULL_COURT, BEYOND, "feed(65, " + n + "), BEYOND ahead of FULL", x -> x.feed(65, n));
    }
    for (int n = 1; n < 5; n++) {
      int many = n;
      refused(Past.FULL_COURT, FULL, "feed(65, " + n + ")", x -> x.feed(65, many));
    }
  }

  private static void sheets() {
    for (int s : NO_SHEETS) {
      refused(Past.COURT, BEYOND, "sheet(" + s + ", 8, 1)", x -> x.sheet(s, 8, 1));
      refused(Past.COURT, BEYOND, "sheet(" + s + ", 8, -1), BEYOND ahead of SIZE", x -> x.sheet(s, 8, -1));
      refused(Past.COURT, BEYOND, "write(" + s + ", 0, 1)", x -> x.write(s, 0, 1));
      refused(Past.COURT, BEYOND, "copy(" + s + ", 0, 0, 0, 1)", x -> x.copy(s, 0, 0, 0, 1));
      refused(Past.COURT, BEYOND, "copy(0, 0, " + s + ", 0, 1)", x -> x.copy(0, 0, s, 0, 1));
      refused(Past.COURT, BEYOND, "copy(3, 0, " + s + ", 0, 1), BEYOND ahead of MISSING", x -> x.copy(3, 0, s, 0, 1));
      refused(Past.COURT, BEYOND, "copy(" + s + ", 0, 3, 0, 1), BEYOND ahead of MISSING", x -> x.copy(s, 0, 3, 0, 1));
      refused(Past.COURT, BEYOND, "lays(" + s + ")", x -> x.lays(s));
      refused(Past.COURT, BEYOND, "roll(" + s + ")", x -> x.roll(s));
      refused(Past.COURT, BEYOND, "read(" + s + ")", x -> x.read(s));
    }
    for (int bits : new int[] {-8, -1, 1, 7, 9, 15, 17, 32, 63, 65, MIN, MAX}) {
      refused(Past.COURT, BEYOND, "sheet(0, " + bits + ", 1)", x -> x.sheet(0, bits, 1));
      refused(Past.COURT, BEYOND, "sheet(0, " + bits + ", -1), BEYOND ahead of SIZE", x -> x.sheet(0, bits, -1));
    }
    for (int bits : new int[] {0, 8, 16, 64}) {
      for (int s = 0; s < 4; s++) {
        int which = s;
        refused(Past.COURT, SIZE, "sheet(" + s + ", " + bits + ", -1)", x -> x.sheet(which, bits, -1));
        refused(Past.COURT, SIZE, "sheet(" + s + ", " + bits + ", min)", x -> x.sheet(which, bits, MIN));
        refused(Past.COURT, BEYOND, "sheet(" + s + ", " + bits + ", 41)", x -> x.sheet(which, bits, 41));
        refused(Past.FULL_COURT, BEYOND, "sheet(" + s + ", " + bits + ", max)", x -> x.sheet(which, bits, MAX));
      }
    }
    for (int i : new int[] {-1, 7, 39, 40, MIN, MAX}) {
      refused(Past.COURT, BEYOND, "write(0, " + i + ", 1)", x -> x.write(0, i, 1));
      refused(Past.COURT, MISSING, "write(3, " + i + ", 1), MISSING ahead of BEYOND", x -> x.write(3, i, 1));
    }
    refused(Past.COURT, BEYOND, "write(2, 0, 1) of no numbers", x -> x.write(2, 0, 1));
    refused(Past.FULL_COURT, BEYOND, "write(2, 40, 1)", x -> x.write(2, 40, 1));
    refused(Past.COURT, MISSING, "write(3, 0, 1)", x -> x.write(3, 0, 1));
    refused(Past.COURT, MISSING, "lays(3)", x -> x.lays(3));
    refused(Past.COURT, MISSING, "roll(3)", x -> x.roll(3));
    refused(Past.COURT, MISSING, "read(3)", x -> x.read(3));
    copies();
  }

  private static void copies() {
    refused(Past.COURT, MISSING, "copy(0, 0, 3, 0, 1)", x -> x.copy(0, 0, 3, 0, 1));
    refused(Past.COURT, MISSING, "copy(3, 0, 0, 0, 1)", x -> x.copy(3, 0, 0, 0, 1));
    refused(Past.COURT, MISSING, "copy(3, 0, 3, 0, 0)", x -> x.copy(3, 0, 3, 0, 0));
    refused(Past.COURT, MISSING, "copy(3, -1, 0, 0, 1), MISSING ahead of BEYOND", x -> x.copy(3, -1, 0, 0, 1));
    refused(Past.COURT, KIND, "copy(0, 0, 1, 0, 1)", x -> x.copy(0, 0, 1, 0, 1));
    refused(Past.COURT, KIND, "copy(1, 0, 0, 0, 1)", x -> x.copy(1, 0, 0, 0, 1));
    refused(Past.COURT, KIND, "copy(0, 0, 2, 0, 0)", x -> x.copy(0, 0, 2, 0, 0));
    refused(Past.COURT, KIND, "copy(0, -1, 1, 0, 1), KIND ahead of BEYOND", x -> x.copy(0, -1, 1, 0, 1));
    refused(Past.COURT, KIND, "copy(0, 0, 1, 0, 9), KIND ahead of BEYOND", x -> x.copy(0, 0, 1, 0, 9));
    refused(Past.COURT, BEYOND, "copy(0, 0, 0, 1, 7)", x -> x.copy(0, 0, 0, 1, 7));
    refused(Past.COURT, BEYOND, "copy(0, 1, 0, 0, 7)", x -> x.copy(0, 1, 0, 0, 7));
    refused(Past.COURT, BEYOND, "copy(0, 0, 0, 0, 8)", x -> x.copy(0, 0, 0, 0, 8));
    refused(Past.COURT, BEYOND, "copy(0, -1, 0, 0, 1)", x -> x.copy(0, -1, 0, 0, 1));
    refused(Past.COURT, BEYOND, "copy(0, 0, 0, -1, 1)", x -> x.copy(0, 0, 0, -1, 1));
    refused(Past.COURT, BEYOND, "copy(0, 1, 0, 0, -1)", x -> x.copy(0, 1, 0, 0, -1));
    refused(Past.COURT, BEYOND, "copy(2, 0, 2, 0, 1) of no numbers", x -> x.copy(2, 0, 2, 0, 1));
    refused(Past.FULL_COURT, BEYOND, "copy(2, 0, 3, 0, 41)", x -> x.copy(2, 0, 3, 0, 41));
    refused(Past.FULL_COURT, BEYOND, "copy(2, 1, 3, 0, 40)", x -> x.copy(2, 1, 3, 0, 40));
    refused(Past.FULL_COURT, BEYOND, "copy(2, 0, 3, 1, 40)", x -> x.copy(2, 0, 3, 1, 40));
    for (int far : new int[] {MIN, MAX}) {
      refused(Past.FULL_COURT, BEYOND, "copy(2, " + far + ", 3, 0, 1)", x -> x.copy(2, far, 3, 0, 1));
      refused(Past.FULL_COURT, BEYOND, "copy(2, 0, 3, " + far + ", 1)", x -> x.copy(2, 0, 3, far, 1));
      refused(Past.FULL_COURT, BEYOND, "copy(2, 0, 3, 0, " + far + ")", x -> x.copy(2, 0, 3, 0, far));
      refused(Past.FULL_COURT, BEYOND, "copy(2, " + far + ", 3, 0, " + far + ")", x -> x.copy(2, far, 3, 0, far));
    }
  }

  private static void images() {
    refused(Past.EMPTY, NONE, "undo()", x -> x.undo());
    refused(Past.TORN, NONE, "undo()", x -> x.undo());
    for (int what : new int[] {-1, 4, MIN, MAX}) {
      refused(Past.COURT, BEYOND, "count(" + what + ")", x -> x.count(what));
    }
    for (int which : new int[] {-2, 7, MIN, MAX}) {
      refused(Past.COURT, BEYOND, "status(" + which + ")", x -> x.status(which));
      refused(Past.EMPTY, BEYOND, "status(" + which + ")", x -> x.status(which));
    }
  }

  // ---- calls that only ask

  private static void questions() {
    for (Past past : new Past[] {Past.COURT, Past.FULL_COURT, Past.LAST_MONTH}) {
      for (int what = 0; what < 4; what++) {
        int w = what;
        asks(past, "kingOf(0, " + w + ")", x -> x.kingOf(0, w));
        asks(past, "wouldFall(" + w + ")", x -> x.wouldFall(w));
        asks(past, "count(" + w + ")", x -> x.count(w));
        asks(past, "now(" + w + ")", x -> x.now(w));
        asks(past, "of(0, " + w + ")", x -> x.of(0, w));
        asks(past, "treatyOf(2, " + w + ")", x -> x.treatyOf(2, w));
      }
      asks(past, "as(0, 0)", x -> x.as(0, 0));
      asks(past, "pledge(1, 0)", x -> x.pledge(1, 0));
      asks(past, "ease(2)", x -> x.ease(2));
      asks(past, "loose()", x -> x.loose());
      asks(past, "pact(0, 1)", x -> x.pact(0, 1));
      asks(past, "plot()", x -> x.plot());
      asks(past, "pulls(2)", x -> x.pulls(2));
      asks(past, "keystone()", x -> x.keystone());
      asks(past, "on(0)", x -> x.on(0));
      asks(past, "best(0)", x -> x.best(0));
      asks(past, "key(0)", x -> x.key(0));
      asks(past, "toFree(0, 1)", x -> x.toFree(0, 1));
      asks(past, "read(0)", x -> x.read(0));
      asks(past, "status(-1)", x -> x.status(-1));
      asks(past, "status(6)", x -> x.status(6));
    }
    asks(Past.COURT, "on(120)", x -> x.on(120));
    asks(Past.FULL_COURT, "on(120)", x -> x.on(120));
    asks(Past.COURT, "way(2, -1)", x -> x.way(2, -1));
    asks(Past.MENDABLE, "way(3, -1)", x -> x.way(3, -1));
    asks(Past.MENDABLE, "way(3, 1)", x -> x.way(3, 1));
    asks(Past.EMPTY, "moves(0)", x -> x.moves(0));
    asks(Past.MENDABLE, "moves(0)", x -> x.moves(0));
    asks(Past.MENDABLE, "moves(1)", x -> x.moves(1));
  }

  /** A text with a fault changes nothing but that the tape is empty, and is no finding. */
  private static void faults() {
    for (Past past : new Past[] {Past.EMPTY, Past.COURT, Past.LAST_MONTH}) {
      HostageKings x = made(past);
      HostageKings y = made(past);
      int[] before = statuses(x);
      String text = ";king 0 fear 44;twin of 1;word 0 to 1 gain 1;word 0 to 0";
      feedAll(x, past == Past.EMPTY ? text.substring(1) : text);
      int place = x.count(2) - 1;
      long got = x.court();
      y.wipe();
      if (got != -1 - place) {
        fail(past + ": court() answered " + got + ", due is " + (-1 - place));
      }
      if (!Arrays.equals(before, statuses(x))) {
        fail(past + ": a fault was counted as a finding");
      }
      for (int part = 0; part < PARTS; part++) {
        if (!seen(x, part).equals(seen(y, part))) {
          fail(past + ": a text with a fault changed something, part " + part);
        }
      }
    }
  }

  /** Each act with each finding that the document names for it, so that none is left out above. */
  private static void everyFindingOfTheDocument() {
    String[] named = {"fear B", "kingOf B", "child B F", "of B", "move B S", "worth B", "turn B", "as B K", "dies B S",
      "swap B S", "treaty B F", "treatyOf B", "gain B", "pledge B", "ease B S", "pact B", "plot N", "wouldFall B",
      "pulls B S", "keystone N", "months B S", "now B", "on B S", "moves B N", "best B S", "key B N", "toFree B",
      "way B M Z S N", "feed B F", "sheet B Z", "write B M", "copy B M K", "lays B M", "roll B M", "read B M", "undo N",
      "count B", "status B"};
    for (String row : named) {
      String[] cells = row.split(" ");
      for (int i = 1; i < cells.length; i++) {
        int finding = BEYOND - "BFKNSMZ".indexOf(cells[i]);
        if (!refusals.contains(cells[0] + " " + finding)) {
          fail(cells[0] + " was never refused by " + finding);
        }
      }
    }
  }

  // ---- arguments from far away

  private static final long[] FAR = {MIN, -1000000001, -1, 0, 1, 6, 14, 32, MAX};
  private static final int CALLS_OF_ONE = 200;

  /** Nothing is thrown, and just what answers a finding is counted, whatever the arguments are. */
  private static void farArguments() throws Exception {
    Method[] acts = HostageKings.class.getDeclaredMethods();
    Arrays.sort(acts, Comparator.comparing(Method::getName));
    for (Past past : Past.values()) {
      for (Method act : acts) {
        if (Modifier.isPublic(act.getModifiers())) {
          farArgumentsOf(past, act);
        }
      }
    }
  }

  private static void farArgumentsOf(Past past, Method act) throws Exception {
    int many = act.getParameterCount();
    int combinations = 1;
    for (int i = 0; i < many; i++) {
      combinations *= FAR.length;
    }
    HostageKings x = made(past);
    int found = x.status(-1);
    for (int code = 0; code < combinations; code++) {
      if (code % CALLS_OF_ONE == CALLS_OF_ONE - 1) {
        dueFound(past, act, x, found);
        x = made(past);
        found = x.status(-1);
      }
      Object[] arguments = new Object[many];
      int rest = code;
      for (int i = 0; i < many; i++) {
        long v = FAR[rest % FAR.length];
        rest /= FAR.length;
        if (act.getParameterTypes()[i] == long.class) {
          arguments[i] = v << 32 | v;
        } else {
          arguments[i] = (int) v;
        }
      }
      found += isFinding(((Number) call(act, x, arguments)).longValue()) ? 1 : 0;
    }
    dueFound(past, act, x, found);
  }

  private static void dueFound(Past past, Method act, HostageKings x, int found) {
    int counted = x.status(-1);
    if (counted != found) {
      fail(past + ": " + act.getName() + " from far away: " + counted + " findings counted, " + found + " answered");
    }
  }

  private static boolean isFinding(long answer) {
    return answer <= BEYOND && answer >= SIZE;
  }

  private static Object call(Method act, HostageKings x, Object[] arguments) throws Exception {
    try {
      return act.invoke(x, arguments);
    } catch (InvocationTargetException thrown) {
      fail(act.getName() + Arrays.toString(arguments) + " threw " + thrown.getCause());
      return 0;
    }
  }
}
