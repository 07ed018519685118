import java.nio.charset.StandardCharsets;
import java.nio.file.Files;
import java.nio.file.Path;
import java.util.Arrays;

/**
 * Each sentence of the document that names a boundary case has a test of its own here, told by the
 * sentence's own words: the value just inside and the value just outside of each bound, the empty
 * and the full court, tape and sheet. What a refused call leaves as it was stands in RefusalsTest.
 */
public final class EdgesTest {
  private static final int BEYOND = -1000000001;
  private static final int FULL = -1000000002;
  private static final int KIND = -1000000003;
  private static final int NONE = -1000000004;
  private static final int STATE = -1000000005;
  private static final int MISSING = -1000000006;
  private static final int SIZE = -1000000007;
  private static final int MIN = Integer.MIN_VALUE;
  private static final int MAX = Integer.MAX_VALUE;
  private static final int ALL_CHILDREN = (1 << 14) - 1;
  private static final int ALL_TREATIES = (1 << 12) - 1;
  private static final int PROMISES = 45;

  private static int asked = 0;
  private static int wrong = 0;
  private static int sentences = 0;
  private static int promise = 0;
  private static String words = "";
  private static String document = "";
  private static final boolean[] tested = new boolean[PROMISES + 1];

  public static void main(String[] args) throws Exception {
    Path path = Path.of(System.getProperty("hostagekings.document", "../shared/DOC.md"));
    document = Files.exists(path) ? Files.readString(path, StandardCharsets.UTF_8) : "";
    terms();
    termsOfTheText();
    termsOfPlans();
    kingsAndChildren();
    treaties();
    falls();
    moves();
    theText();
    sheets();
    images();
    for (int p = 1; p <= PROMISES; p++) {
      if (!tested[p]) {
        wrong++;
        System.out.println("promise " + p + " has no sentence tested");
      }
    }
    System.out.println(sentences + " sentences, " + asked + " answers looked at, " + wrong + " not as due");
    if (wrong != 0) {
      System.exit(1);
    }
  }

  /** Promise 0 stands for the terms. The words must stand in the document under that heading. */
  private static void sentence(int which, String told, Runnable test) {
    promise = which;
    words = told;
    sentences++;
    tested[which] = true;
    if (!document.isEmpty() && !chapter(which).contains(told)) {
      wrong++;
      System.out.println("promise " + which + ": the document has no words \"" + told + "\"");
    }
    int before = asked;
    test.run();
    if (asked == before) {
      wrong++;
      System.out.println("promise " + which + ": nothing is asked of \"" + told + "\"");
    }
  }

  private static String chapter(int which) {
    int from = which == 0 ? 0 : document.indexOf("## Promise " + which + ":");
    int to = document.indexOf(which == PROMISES ? "## Not promised" : "## Promise " + (which + 1) + ":");
    return from < 0 || to < from ? "" : document.substring(from, to);
  }

  private static void due(String call, long got, long want) {
    asked++;
    if (got != want) {
      wrong++;
      System.out.println("promise " + promise + ", \"" + words + "\": " + call + " answered " + got + ", due is " + want);
    }
  }

  private static HostageKings fresh() {
    return new HostageKings();
  }

  /** Puts a text on the tape, four bytes a call. */
  private static void feedAll(HostageKings x, String text) {
    for (int i = 0; i < text.length(); i += 4) {
      int n = Math.min(4, text.length() - i);
      int bytes = 0;
      for (int j = i; j < i + n; j++) {
        bytes = bytes << 8 | text.charAt(j);
      }
      x.feed(bytes, n);
    }
  }

  private static int told(HostageKings x, String text) {
    feedAll(x, text);
    return x.court();
  }

  /** The sign ^ stands ahead of the token that can't stand, or at the end of a text too short. */
  private static void dueFaults(String... texts) {
    for (String text : texts) {
      dueFault(fresh(), text);
    }
  }

  private static void dueFault(HostageKings x, String text) {
    due("court of \"" + text + "\"", told(x, text.replace("^", "")), -1 - text.indexOf('^'));
  }

  private static int abroad(HostageKings x, int kind, int father, int holder, int worth) {
    int c = x.child(kind, father, worth);
    x.move(c, holder);
    return c;
  }

  private static void lay(HostageKings x, int s, int... numbers) {
    x.sheet(s, 8, numbers.length);
    for (int i = 0; i < numbers.length; i++) {
      x.write(s, i, numbers[i]);
    }
  }

  private static void dueNumbers(HostageKings x, int s, long... want) {
    for (int i = 0; i < want.length; i++) {
      long got = x.write(s, i, 0);
      x.write(s, i, got);
      due("number " + i + " of sheet " + s, got, want[i]);
    }
    due("sheet " + s + " has so many numbers", x.write(s, want.length, 0), BEYOND);
  }

  private static void dueChild(HostageKings x, int child, int... want) {
    for (int what = 0; what < want.length; what++) {
      due("of(" + child + ", " + what + ")", x.of(child, what), want[what]);
    }
  }

  private static void dueTreaty(HostageKings x, int treaty, int... want) {
    for (int what = 0; what < want.length; what++) {
      due("treatyOf(" + treaty + ", " + what + ")", x.treatyOf(treaty, what), want[what]);
    }
  }

  private static void dueMoves(HostageKings x, int many, int first, int second) {
    due("moves(0)", x.moves(0), many);
    due("moves(1)", x.moves(1), first);
    due("moves(2)", x.moves(2), second);
  }

  private static void dueWay(HostageKings x, int s, int... children) {
    due("way(" + s + ", -1)", x.way(s, -1), children.length);
    for (int i = 0; i < 8; i++) {
      due("way(" + s + ", " + i + ")", x.way(s, i), i < children.length ? children[i] : NONE);
    }
  }

  private static HostageKings withChildren(int many, int kind, int father, int worth) {
    HostageKings x = fresh();
    for (int c = 0; c < many; c++) {
      x.child(kind, father, worth);
    }
    return x;
  }

  private static HostageKings withTreaties(int many, int by, int to, int gain) {
    HostageKings x = fresh();
    for (int t = 0; t < many; t++) {
      x.treaty(by, to, gain, 999);
    }
    return x;
  }

  /** Months go till it is that one; no longer than that takes, so that the test ends if they don't go. */
  private static void goTo(HostageKings x, int month) {
    for (int at = x.now(0); at < month; at += 60) {
      x.months(Math.min(60, month - at));
    }
    due("now(0)", x.now(0), month);
  }

  private static int brokenSet(HostageKings x) {
    int set = 0;
    for (int t = 0; t < x.count(1); t++) {
      set |= x.treatyOf(t, 4) << t;
    }
    return set;
  }

  private static int deadSet(HostageKings x) {
    int set = 0;
    for (int c = 0; c < x.count(0); c++) {
      set |= x.of(c, 4) << c;
    }
    return set;
  }

  // ---- the terms

  private static void terms() {
    sentence(0, "An object is used for at most 512 calls after it has been made", () -> {
      HostageKings x = fresh();
      for (int i = 1; i < 512; i++) {
        x.fear(6, 0);
      }
      due("the 512th call", x.status(-1), 511);
    });
    sentence(0, "-1000000001 BEYOND, -1000000002 FULL, -1000000003 KIND, -1000000004 NONE, -1000000005 STATE, "
        + "-1000000006 MISSING, -1000000007 SIZE (in longs, too)", () -> {
      HostageKings x = withChildren(14, 0, 0, 0);
      x.dies(0);
      due("BEYOND", x.fear(6, 0), -1000000001);
      due("FULL", x.child(0, 0, 0), -1000000002);
      due("KIND", x.as(0, 1), -1000000003);
      due("NONE", x.undo(), -1000000004);
      due("STATE", x.dies(0), -1000000005);
      due("MISSING", x.roll(0), -1000000006);
      due("SIZE", x.sheet(0, 8, -1), -1000000007);
      due("MISSING in longs", x.write(0, 0, 0), -1000000006L);
      due("BEYOND in longs", x.write(4, 0, 0), -1000000001L);
    });
    sentence(0, "Quotients are cut.", () -> {
      HostageKings x = fresh();
      x.child(2, 0, 1);
      x.child(2, 0, 99);
      x.child(4, 0, 13);
      due("half of 1", x.of(0, 5), 0);
      due("half of 99", x.of(1, 5), 49);
      due("half of 13, less 5", x.of(2, 5), 1);
    });
    sentence(0, "Sets are told by bits.", () -> {
      HostageKings x = withTreaties(12, 0, 1, 0);
      for (int c = 0; c < 14; c++) {
        x.child(0, c == 0 ? 2 : c == 13 ? 3 : 4, 0);
      }
      due("child 0", x.kingOf(2, 1), 1);
      due("child 13", x.kingOf(3, 1), 8192);
      x.gain(0, 1);
      due("treaty 0", x.loose(), 1);
      x.gain(0, 0);
      x.gain(11, 1);
      due("treaty 11", x.loose(), 2048);
    });
    sentence(0, "KINGS 0 to 5, each with a FEAR (0 to 99; 0 at first).", () -> {
      HostageKings x = fresh();
      for (int king = 0; king < 6; king++) {
        due("at first", x.kingOf(king, 0), 0);
        due("99", x.fear(king, 99), 0);
        due("100", x.fear(king, 100), BEYOND);
        due("0", x.fear(king, 0), 99);
        due("-1", x.fear(king, -1), BEYOND);
      }
      due("king -1", x.kingOf(-1, 0), BEYOND);
      due("king 6", x.kingOf(6, 0), BEYOND);
    });
    sentence(0, "CHILDREN 0, 1, .. (at most 14)", () -> {
      HostageKings x = withChildren(13, 0, 0, 0);
      due("the 14th", x.child(0, 0, 0), 13);
      due("the 15th", x.child(0, 0, 0), FULL);
      due("child 13", x.of(13, 4), 0);
      due("child 14", x.of(14, 4), BEYOND);
    });
    sentence(0, "0 CHILD, 1 HEIR under CHILD, 2 WARD under CHILD, 3 ELDEST under HEIR, 4 LOST under WARD, "
        + "5 TWIN under HEIR", EdgesTest::kindsUnderKinds);
    sentence(0, "a HOLDER (a KING; its FATHER: at HOME)", () -> {
      HostageKings x = fresh();
      x.child(0, 5, 7);
      due("at home", x.now(4), 1);
      x.move(0, 4);
      due("abroad", x.now(4), 0);
      x.move(0, 5);
      due("at home again", x.now(4), 1);
    });
    losses();
    termsOfTreaties();
  }

  private static void kindsUnderKinds() {
    // by kind, the set of kinds that it is, or is under
    int[] passes = {0b000001, 0b000011, 0b000101, 0b001011, 0b010101, 0b100011};
    HostageKings x = fresh();
    for (int kind = 0; kind < 6; kind++) {
      abroad(x, kind, 0, 5 - kind, 1);
      for (int as = 0; as < 6; as++) {
        due("as(" + kind + ", " + as + ")", x.as(kind, as), (passes[kind] >> as & 1) != 0 ? 5 - kind : KIND);
      }
    }
  }

  private static void dueLosses(int kind, int... worthsAndLosses) {
    HostageKings x = fresh();
    x.child(kind, 0, 0);
    for (int i = 0; i < worthsAndLosses.length; i += 2) {
      x.worth(0, worthsAndLosses[i]);
      due("loss at worth " + worthsAndLosses[i], x.of(0, 5), worthsAndLosses[i + 1]);
    }
  }

  private static void losses() {
    sentence(0, "CHILD: WORTH.", () -> dueLosses(0, 0, 0, 1, 1, 99, 99));
    sentence(0, "HEIR: twice as CHILD.", () -> dueLosses(1, 0, 0, 1, 2, 99, 198));
    sentence(0, "WARD: half of what it is for a CHILD.", () -> dueLosses(2, 0, 0, 1, 0, 2, 1, 98, 49, 99, 49));
    sentence(0, "ELDEST: as HEIR, and 20.", () -> dueLosses(3, 0, 20, 1, 22, 99, 218));
    sentence(0, "LOST: as WARD, less 5, 0 at least.",
        () -> dueLosses(4, 0, 0, 1, 0, 9, 0, 10, 0, 11, 0, 12, 1, 13, 1, 14, 2, 99, 44));
    sentence(0, "TWIN: as HEIR, but half of that, if another TWIN of the same FATHER is at HOME (and not DEAD).", () -> {
      dueLosses(5, 0, 0, 1, 2, 99, 198);
      HostageKings x = fresh();
      x.child(5, 0, 99);
      x.child(5, 0, 1);
      due("another one at home", x.of(0, 5), 99);
      due("half of twice 1", x.of(1, 5), 1);
      x.move(0, 3);
      due("abroad, the other one at home", x.of(0, 5), 99);
      due("at home, the other one abroad", x.of(1, 5), 2);
      x.move(1, 3);
      due("both abroad", x.of(0, 5), 198);
      x.move(1, 0);
      x.dies(1);
      due("the one at home is dead", x.of(0, 5), 198);
      x.child(5, 3, 1);
      x.child(5, 3, 1);
      x.move(3, 0);
      due("those of another father count not", x.of(0, 5), 198);
      x.child(3, 0, 1);
      x.child(1, 0, 1);
      due("those of other kinds count not", x.of(0, 5), 198);
      x.turn(4, 5);
      due("once it is a TWIN", x.of(0, 5), 99);
    });
  }

  private static void termsOfTreaties() {
    sentence(0, "TREATIES 0, 1, .. (at most 12)", () -> {
      HostageKings x = withTreaties(11, 0, 1, 0);
      due("the 12th", x.treaty(0, 1, 0, 0), 11);
      due("the 13th", x.treaty(0, 1, 0, 0), FULL);
      due("treaty 11", x.treatyOf(11, 3), 0);
      due("treaty 12", x.treatyOf(12, 3), BEYOND);
    });
    sentence(0, "UNTIL a MONTH (0 to 999; in force in MONTHS up to that)", () -> {
      HostageKings x = fresh();
      x.treaty(0, 1, 0, 0);
      x.treaty(0, 1, 0, 1);
      x.treaty(0, 1, 0, 998);
      x.treaty(0, 1, 0, 999);
      due("month 0", x.kingOf(0, 3), 0b1111);
      x.months(1);
      due("month 1", x.kingOf(0, 3), 0b1110);
      x.months(1);
      due("month 2", x.kingOf(0, 3), 0b1100);
      goTo(x, 998);
      due("month 998", x.kingOf(0, 3), 0b1100);
      x.months(1);
      due("month 999", x.kingOf(0, 3), 0b1000);
    });
    sentence(0, "One is IN FORCE, if it isn't BROKEN and MONTH isn't above UNTIL.", () -> {
      HostageKings x = fresh();
      x.treaty(0, 1, 1, 0);
      x.treaty(0, 1, 0, 0);
      x.fall();
      due("broken, month isn't above", x.treatyOf(0, 5), 0);
      due("not broken, month isn't above", x.treatyOf(1, 5), 1);
      x.months(1);
      due("broken, month is above", x.treatyOf(0, 5), 0);
      due("not broken, month is above", x.treatyOf(1, 5), 0);
      due("not broken", x.treatyOf(1, 4), 0);
    });
    sentence(0, "HELD by a KING of another one: the CHILDREN (not DEAD) of that one whose HOLDER it is", () -> {
      HostageKings x = fresh();
      abroad(x, 0, 0, 1, 1);
      abroad(x, 0, 0, 1, 2);
      abroad(x, 0, 0, 2, 4);
      abroad(x, 0, 2, 1, 8);
      x.child(0, 0, 16);
      x.child(0, 1, 32);
      due("his alone, those of that one alone", x.pledge(1, 0), 3);
      x.dies(0);
      due("not a dead one", x.pledge(1, 0), 2);
      x.dies(1);
      due("none", x.pledge(1, 0), 0);
    });
    sentence(0, "PLEDGE: what their LOSSES are together.", () -> {
      HostageKings x = fresh();
      due("of none", x.pledge(5, 0), 0);
      for (int c = 0; c < 14; c++) {
        abroad(x, 3, 0, 5, 99);
      }
      due("the most that can be", x.pledge(5, 0), 14 * 218);
    });
    sentence(0, "its GAIN is more than the PLEDGE that TO holds of BY and BY's FEAR together", () -> {
      HostageKings x = fresh();
      abroad(x, 0, 0, 1, 10);
      abroad(x, 0, 1, 0, 90);
      x.fear(0, 5);
      x.fear(1, 80);
      x.treaty(0, 1, 15, 0);
      due("as much", x.loose(), 0);
      x.gain(0, 16);
      due("one more", x.loose(), 1);
      x.fear(0, 6);
      due("as much by fear", x.loose(), 0);
      x.worth(0, 9);
      due("one less of the pledge", x.loose(), 1);
      x.gain(0, 0);
      x.fear(0, 0);
      x.dies(0);
      due("0 is not more than 0", x.loose(), 0);
      x.gain(0, 1);
      due("1 is more than 0", x.loose(), 1);
      x.fear(0, 99);
      x.months(1);
      x.fear(0, 0);
      due("not in force", x.loose(), 0);
    });
    sentence(0, "all LOOSE TREATIES are BROKEN at once, and CHILDREN of BY that TO holds are DEAD", () -> {
      HostageKings x = fresh();
      abroad(x, 0, 0, 1, 10);
      abroad(x, 0, 0, 1, 10);
      abroad(x, 0, 0, 2, 10);
      abroad(x, 0, 2, 1, 10);
      abroad(x, 0, 1, 0, 10);
      x.child(0, 0, 10);
      x.treaty(0, 1, 21, 0);
      x.treaty(0, 1, 22, 0);
      due("both in one round", x.fall(), 1);
      due("broken", brokenSet(x), 0b11);
      due("dead", deadSet(x), 0b000011);
    });
    sentence(0, "that again and again, till none is LOOSE: so many ROUNDS.", () -> {
      HostageKings x = fresh();
      due("none at all", x.fall(), 0);
      abroad(x, 0, 0, 1, 10);
      x.treaty(0, 1, 10, 9);
      due("none loose", x.fall(), 0);
      x.treaty(0, 1, 11, 9);
      x.treaty(0, 1, 0, 9);
      due("the second one falls behind the first", x.fall(), 2);
      due("broken", brokenSet(x), 0b011);
      due("none is loose", x.loose(), 0);
      due("again", x.fall(), 0);
    });
    sentence(0, "A MONTH goes (MONTH is 0 at first; 999 at most): a FALL; then MONTH is one more.", () -> {
      HostageKings x = fresh();
      due("at first", x.now(0), 0);
      x.treaty(0, 1, 1, 0);
      due("the fall comes first", x.months(1), 1);
      due("one more", x.now(0), 1);
      goTo(x, 999);
      due("the last one", x.now(0), 999);
      due("no more", x.months(1), STATE);
    });
  }

  private static void termsOfTheText() {
    sentence(0, "THE TAPE (bytes, at most 120)", () -> {
      HostageKings x = fresh();
      for (int i = 1; i <= 120; i++) {
        due("byte " + i, x.feed(' ', 1), i);
      }
      due("byte 121", x.feed(' ', 1), FULL);
    });
    sentence(0, "TOKENS, each as long as can be", () -> {
      dueFaults("^kingfear", "^childof 0", "^heirs of 0", "king 0 ^fearx 1", "king ^00009 fear 1");
      HostageKings x = fresh();
      due("a sign, a number and a word end each other", told(x, "king0fear12;king1fear3"), 2);
      due("12", x.kingOf(0, 0), 12);
      due("3", x.kingOf(1, 0), 3);
      due("a word up to the last byte", told(x, " ".repeat(116) + "king"), -121);
      due("a number up to the last byte", told(x, " ".repeat(106) + "king 0 fear 99"), 1);
      due("99", x.kingOf(0, 0), 99);
    });
    sentence(0, "WORDS (letters a to z)", () ->
        dueFaults("^kingz 0 fear 1", "^kinga 0 fear 1", "^zking 0 fear 1", "^xing 0 fear 1", "^kinx 0 fear 1", "king 0 ^xear 1",
            "king 0 ^feax 1", "king 0 ^fea 1", "king 0 ^fears 1", "^xord 0", "^worx 0", "^xhild of 0", "child ^xf 0", "child ^ox 0",
            "king^`0", "king^{0", "^`", "^{", "^A", "^Z", "^King 0 fear 1", "^kinG 0 fear 1",
            "^a", "^z", "^azaz"));
    sentence(0, "NUMBERS (digits, 999 at most)", () -> {
      HostageKings x = fresh();
      due("999", told(x, "word 0 to 1 gain 999"), 1);
      due("0", told(x, "word 0 to 1 gain 0"), 1);
      dueFaults("word 0 to 1 gain ^1000", "word 0 to 1 gain ^9990", "word 0 to 1 gain ^99999999999",
          "word 0 to 1 gain ^4294967296", "word 0 to 1 gain ^2147483648", "word 0 to 1 gain 9^/", "word 0 to 1 gain 9^:",
          "king 0 fear ^18446744073709551617");
    });
    sentence(0, "SIGN ; ; blanks may stand between", () -> {
      HostageKings x = fresh();
      due("none", told(x, "king0fear1;king1fear2"), 2);
      due("many", told(x, "   king   0   fear   1   ;   king   1   fear   2   "), 2);
      dueFaults("^k ing 0 fear 1", "king 0 fear 1 ^1", "king 0 fear 1^\t", "king^\n0", "king^\r0",
          "king^" + (char) 31 + "0", "king^!0", "king^" + (char) 160 + "0", "^" + (char) 0, "^" + (char) 255);
    });
    sentence(0, "TEXT: ITEM { ; ITEM }.", () -> {
      due("one", told(fresh(), "king 0 fear 1"), 1);
      due("two", told(fresh(), "king 0 fear 1;king 0 fear 2"), 2);
      due("as many as there can be", told(fresh(), "king0fear1;".repeat(10) + "king0fear2"), 11);
      dueFaults("^", "^;", "^;king 0 fear 1", "king 0 fear 1;^", "king 0 fear 1;^;king 0 fear 1", "king 0 fear 1 ^king");
    });
    sentence(0, "king, a NUMBER, fear, a NUMBER (0 to 99)", () -> {
      HostageKings x = fresh();
      due("king 0, fear 99", told(x, "king 0 fear 99"), 1);
      due("99", x.kingOf(0, 0), 99);
      due("king 5, fear 0; king 0, fear 0", told(x, "king 5 fear 0;king 0 fear 0"), 2);
      due("0", x.kingOf(0, 0), 0);
      dueFaults("king ^6 fear 1", "king 0 fear ^100", "king ^fear 1", "king 0 ^0", "king 0 fear ^fear", "king^", "king 0^",
          "king 0 fear^", "king 0 fear 1 ^fear 1", "king ^999 fear 1", "king 0 fear ^999");
    });
    textOfChildren();
    textOfTreaties();
    faults();
  }

  private static void textOfChildren() {
    sentence(0, "the name of a KIND (child heir ward eldest lost twin), of, a NUMBER (FATHER)", () -> {
      HostageKings x = fresh();
      due("all six", told(x, "child of 0;heir of 1;ward of 2;eldest of 3;lost of 4;twin of 5"), 6);
      for (int kind = 0; kind < 6; kind++) {
        dueChild(x, kind, kind, kind, kind, 10, 0);
      }
      dueFaults("child of ^6", "child ^0", "child^", "child of^", "child ^off 0", "^chil of 0", "^children of 0",
          "child of ^with 1", "child of ^worth 1", "child of ^of 0", "child of 0 ^of 0", "^of 0", "^elder of 0", "^twi of 0", "^los", "^wards of 1");
    });
    sentence(0, "perhaps with and a NUMBER (HOLDER; at HOME without)", () -> {
      HostageKings x = fresh();
      due("with 0, with 5, without, with the father", told(x, "heir of 5 with 0;heir of 0 with 5;heir of 3;heir of 4 with 4"), 4);
      due("0", x.of(0, 2), 0);
      due("5", x.of(1, 2), 5);
      due("at home", x.of(2, 2), 3);
      due("at home", x.of(3, 2), 4);
      dueFaults("heir of 0 with ^6", "heir of 0 with^", "heir of 0 with ^;", "heir of 0 with 1 ^with 1", "heir of 0 ^1",
          "heir of 0 with ^worth 1", "heir of 0 ^wit 1");
    });
    sentence(0, "perhaps worth and a NUMBER (0 to 99; 10 without): a new CHILD", () -> {
      HostageKings x = fresh();
      due("0, 99, without, with and without", told(x, "heir of 0 worth 0;heir of 0 worth 99;heir of 0;heir of 0 with 1"), 4);
      due("0", x.of(0, 3), 0);
      due("99", x.of(1, 3), 99);
      due("10", x.of(2, 3), 10);
      due("10", x.of(3, 3), 10);
      due("with both", told(x, "heir of 0 with 2 worth 98"), 1);
      dueChild(x, 4, 1, 0, 2, 98);
      dueFaults("heir of 0 worth ^100", "heir of 0 worth^", "heir of 0 worth ^;", "heir of 0 worth 1 ^worth 1",
          "heir of 0 worth 1 ^with 1", "heir of 0 with 1 worth ^100", "heir of 0 ^until 1", "heir of 0 worth 1 ^1");
    });
  }

  private static void textOfTreaties() {
    sentence(0, "word, a NUMBER (BY), to, a NUMBER (another KING)", () -> {
      HostageKings x = fresh();
      due("0 to 5, 5 to 0", told(x, "word 0 to 5 gain 1;word 5 to 0 gain 2"), 2);
      dueTreaty(x, 0, 0, 5, 1);
      dueTreaty(x, 1, 5, 0, 2);
      dueFaults("word ^6 to 0 gain 1", "word 0 to ^6 gain 1", "word 0 to ^0 gain 1", "word 5 to ^5 gain 1",
          "word ^6 to 6 gain 1", "word ^to 0", "word 0 ^0", "word 0 to ^gain 1", "word^", "word 0^",
          "word 0 to^", "word 0 to ^;", "word 0 to ^00 gain 1", "^words 0 to 1 gain 1", "^wor 0");
    });
    sentence(0, "gain, a NUMBER (0 to 999)", () -> {
      HostageKings x = fresh();
      due("0, 999", told(x, "word 0 to 1 gain 0;word 0 to 1 gain 999"), 2);
      due("0", x.treatyOf(0, 2), 0);
      due("999", x.treatyOf(1, 2), 999);
      dueFaults("word 0 to 1 gain ^1000", "word 0 to 1^", "word 0 to 1 gain^", "word 0 to 1 ^1", "word 0 to 1 gain ^;",
          "word 0 to 1 ^until 1", "word 0 to 1^;", "word 0 to 1 gain 1 ^gain 1");
    });
    sentence(0, "perhaps until and a NUMBER (0 to 999; 999 without): a new TREATY", () -> {
      HostageKings x = fresh();
      due("0, 999, without", told(x, "word 0 to 1 gain 1 until 0;word 0 to 1 gain 1 until 998;word 0 to 1 gain 1"), 3);
      due("0", x.treatyOf(0, 3), 0);
      due("998", x.treatyOf(1, 3), 998);
      due("999", x.treatyOf(2, 3), 999);
      due("999 told", told(x, "word 0 to 1 gain 1 until 999"), 1);
      due("999", x.treatyOf(3, 3), 999);
      dueFaults("word 0 to 1 gain 1 until ^1000", "word 0 to 1 gain 1 until^", "word 0 to 1 gain 1 until ^;",
          "word 0 to 1 gain 1 until 1 ^until 1", "word 0 to 1 gain 1 ^worth 1", "word 0 to 1 gain 1 ^1");
    });
  }

  private static void faults() {
    sentence(0, "the place (from 0) of the first byte of the first TOKEN that can't stand there", () -> {
      dueFaults("^x", " ^x", "king ^king king", "king 0 fear 5;  ^dog;");
      due("the last place", told(fresh(), " ".repeat(119) + "x"), -120);
      due("a long token's first byte", told(fresh(), " " + "x".repeat(119)), -2);
      due("a long number's first byte", told(fresh(), "king 0 fear " + "9".repeat(108)), -13);
    });
    sentence(0, "(a NUMBER that may not be, another WORD, a byte that begins no TOKEN,", () ->
        dueFaults("king ^6", "king ^10", "king 0 ^worth", "king ^.0", "king 0^,", "^-1", "king 0 fear ^-1", "king 0 fear 1^."));
    sentence(0, "the name of a KIND for a 15th CHILD, word for a 13th TREATY: its own)", () -> {
      HostageKings x = withChildren(13, 0, 0, 0);
      dueFault(x, "heir of 0; ^heir of 0");
      due("the 14th", told(x, "heir of 0"), 1);
      for (String name : new String[] {"child", "heir", "ward", "eldest", "lost", "twin"}) {
        dueFault(x, "^" + name);
        dueFault(x, " ^" + name + " of 0");
      }
      due("a treaty still", told(x, "word 0 to 1 gain 0"), 1);
      HostageKings y = withTreaties(11, 0, 1, 0);
      dueFault(y, "word 0 to 1 gain 0; ^word 0 to 1 gain 0");
      due("the 12th", told(y, "word 0 to 1 gain 0"), 1);
      dueFault(y, "^word");
      dueFault(y, " ^word 0 to 1 gain 0");
      due("a child still", told(y, "heir of 0"), 1);
    });
    sentence(0, "or how many bytes there are if it ends too early", () -> {
      dueFaults("^", " ^", "king^", "king ^", "king 0  ^", "king 0 fear^", "king 0 fear 1;^", "king 0 fear 1; ^", "heir^",
          "heir of^", "heir of 0 with^", "heir of 0 worth^", "word^", "word 0 to^", "word 0 to 1 gain^",
          "word 0 to 1 gain 1 until^");
      due("all blank", told(fresh(), " ".repeat(120)), -121);
      due("a sign last", told(fresh(), " ".repeat(106) + "king 0 fear 1;"), -121);
    });
  }

  private static void termsOfPlans() {
    sentence(0, "ON: n MONTHS go (FALLS, too) with all as it is; nothing changes.", () -> {
      HostageKings x = fresh();
      abroad(x, 0, 0, 1, 10);
      x.treaty(0, 1, 10, 9);
      x.treaty(0, 1, 11, 9);
      due("no month, no fall", x.on(0), 0b11);
      due("one month, a fall", x.on(1), 0);
      due("nothing is broken", x.now(2), 0);
      due("nobody is dead", x.now(3), 1);
      due("no month went", x.now(0), 0);
    });
    sentence(0, "are more than the LOSSES of all CHILDREN of theirs (not DEAD) that third KINGS hold, and both FEARS, together",
        () -> {
      HostageKings x = fresh();
      x.treaty(0, 2, 10, 0);
      x.treaty(1, 5, 10, 0);
      x.treaty(0, 1, 999, 0);
      x.treaty(1, 0, 999, 0);
      x.treaty(3, 0, 999, 0);
      x.fear(0, 5);
      x.fear(1, 5);
      abroad(x, 0, 0, 3, 4);
      abroad(x, 0, 1, 4, 6);
      abroad(x, 0, 0, 1, 99);
      abroad(x, 0, 1, 0, 99);
      x.child(0, 0, 99);
      due("20 isn't more than 20", x.pact(0, 1), 0);
      x.fear(0, 4);
      due("20 is more than 19", x.pact(0, 1), 1);
      x.fear(1, 6);
      due("as much again", x.pact(0, 1), 0);
      x.dies(0);
      due("a dead one counts not", x.pact(0, 1), 1);
      x.gain(0, 6);
      due("as much again", x.pact(0, 1), 0);
      x.gain(1, 11);
      due("one more of the other's", x.pact(0, 1), 1);
      x.fear(0, 99);
      x.fear(1, 99);
      x.fear(3, 99);
      x.gain(0, 0);
      x.gain(1, 0);
      x.gain(2, 0);
      x.gain(3, 0);
      x.gain(4, 0);
      x.months(1);
      x.fear(0, 0);
      x.fear(1, 0);
      x.worth(1, 0);
      x.gain(0, 99);
      due("one that is over counts not", x.pact(0, 1), 0);
    });
    sentence(0, "MOVES: a plan of at most 2 CHILDREN (not DEAD), each to another HOLDER (unlike now), "
        + "with which no TREATY is LOOSE", () -> {
      HostageKings x = withChildren(3, 0, 0, 10);
      x.treaty(0, 1, 20, 9);
      dueMoves(x, 2, 0 * 6 + 1, 1 * 6 + 1);
      x.gain(0, 21);
      dueMoves(x, NONE, NONE, NONE);
      x.gain(0, 20);
      x.dies(0);
      dueMoves(x, 2, 1 * 6 + 1, 2 * 6 + 1);
      x.move(1, 1);
      dueMoves(x, 1, 2 * 6 + 1, NONE);
      x.move(2, 1);
      dueMoves(x, 0, NONE, NONE);
      x.dies(2);
      dueMoves(x, NONE, NONE, NONE);
    });
    sentence(0, "fewest first (0, if none is LOOSE now)", () -> {
      HostageKings x = fresh();
      dueMoves(x, 0, NONE, NONE);
      x.child(0, 0, 5);
      x.child(0, 0, 5);
      x.child(0, 0, 10);
      x.treaty(0, 1, 10, 9);
      dueMoves(x, 1, 2 * 6 + 1, NONE);
      x.worth(2, 9);
      dueMoves(x, 2, 0 * 6 + 1, 1 * 6 + 1);
    });
    sentence(0, "of several the first by 6 times the CHILD and the HOLDER of the lesser one, then of the greater one", () -> {
      HostageKings x = fresh();
      x.child(0, 0, 10);
      x.child(0, 0, 9);
      x.child(0, 0, 11);
      x.child(0, 0, 11);
      x.treaty(0, 1, 20, 9);
      dueMoves(x, 2, 0 * 6 + 1, 2 * 6 + 1);
      x.worth(0, 8);
      dueMoves(x, 2, 1 * 6 + 1, 2 * 6 + 1);
      x.worth(1, 8);
      dueMoves(x, 2, 2 * 6 + 1, 3 * 6 + 1);
      x.gain(0, 10);
      x.treaty(0, 2, 10, 9);
      dueMoves(x, 2, 2 * 6 + 1, 3 * 6 + 2);
      x.worth(0, 10);
      dueMoves(x, 2, 0 * 6 + 1, 2 * 6 + 2);
      HostageKings y = fresh();
      abroad(y, 5, 0, 1, 10);
      y.child(5, 0, 1);
      y.treaty(0, 1, 20, 9);
      due("any place but home: the least", y.moves(1), 1 * 6 + 1);
      y.treaty(0, 1, 22, 0);
      due("there alone", y.moves(1), 1 * 6 + 1);
      y.move(1, 1);
      y.gain(1, 0);
      y.gain(0, 21);
      y.move(1, 0);
      due("the first holder that is enough", y.moves(1), 1 * 6 + 1);
    });
    sentence(0, "a WAY holds if no TREATY is LOOSE behind each move (of none to be moved it holds)", () -> {
      HostageKings x = fresh();
      abroad(x, 0, 0, 1, 10);
      x.child(0, 0, 10);
      x.treaty(0, 1, 10, 9);
      lay(x, 0, 0, 1);
      dueWay(x, 0, 1, 0);
      lay(x, 0, 0, 0);
      dueNoWay(x, 0);
      x.gain(0, 11);
      lay(x, 0, 1, 0);
      dueWay(x, 0);
      lay(x, 0, 1, 2);
      dueNoWay(x, 0);
      lay(x, 0, 1, 1);
      dueWay(x, 0, 1);
      lay(x, 0, 2, 1);
      dueNoWay(x, 0);
    });
    sentence(0, "SHEETS 0 to 3 are rows of at most 40 numbers", () -> {
      HostageKings x = fresh();
      due("sheet 0 of 40", x.sheet(0, 8, 40), 40);
      due("sheet 3 of 40", x.sheet(3, 8, 40), 40);
      due("41", x.sheet(0, 8, 41), BEYOND);
      due("sheet 4", x.sheet(4, 8, 40), BEYOND);
      due("sheet -1", x.sheet(-1, 8, 40), BEYOND);
      due("number 39", x.write(3, 39, 1), 0);
      due("number 40", x.write(3, 40, 1), BEYOND);
    });
    sentence(0, "numbers of 8, 16 or 64 bits (with sign: -128 to 127, ..)", EdgesTest::numbersNarrowed);
    sentence(0, "or MISSING (at first)", () -> {
      HostageKings x = fresh();
      for (int s = 0; s < 4; s++) {
        due("read(" + s + ")", x.read(s), MISSING);
      }
    });
  }

  private static void dueNoWay(HostageKings x, int s) {
    for (int what = -1; what < 8; what++) {
      due("way(" + s + ", " + what + ")", x.way(s, what), NONE);
    }
  }

  private static void dueKept(int bits, long... writtenAndKept) {
    HostageKings x = fresh();
    x.sheet(0, bits, 1);
    for (int i = 0; i < writtenAndKept.length; i += 2) {
      x.write(0, 0, writtenAndKept[i]);
      due(writtenAndKept[i] + " in " + bits + " bits", x.write(0, 0, 0), writtenAndKept[i + 1]);
    }
  }

  private static void numbersNarrowed() {
    dueKept(8, 127, 127, 128, -128, -128, -128, -129, 127, 255, -1, 256, 0, -256, 0, 257, 1, 65536, 0, 1L << 32, 0,
        Long.MAX_VALUE, -1, Long.MIN_VALUE, 0);
    dueKept(16, 127, 127, 128, 128, 32767, 32767, 32768, -32768, -32768, -32768, -32769, 32767, 65535, -1, 65536, 0,
        65541, 5, 1L << 32, 0, Long.MAX_VALUE, -1, Long.MIN_VALUE, 0);
    dueKept(64, 32768, 32768, 65536, 65536, MAX, MAX, MAX + 1L, MAX + 1L, MIN - 1L, MIN - 1L, 1L << 32, 1L << 32,
        Long.MAX_VALUE, Long.MAX_VALUE, Long.MIN_VALUE, Long.MIN_VALUE, -1, -1);
  }

  // ---- kings, children

  private static void kingsAndChildren() {
    sentence(1, "No CHILDREN, TREATIES; THE TAPE is empty, no image is kept.", () -> {
      HostageKings x = fresh();
      for (int what = 0; what < 4; what++) {
        due("count(" + what + ")", x.count(what), 0);
      }
      for (int what = 0; what < 5; what++) {
        due("now(" + what + ")", x.now(what), 0);
      }
      due("status(-1)", x.status(-1), 0);
      due("child 0", x.of(0, 0), BEYOND);
      due("treaty 0", x.treatyOf(0, 0), BEYOND);
      due("undo()", x.undo(), NONE);
      due("tear()", x.tear(), 0);
      due("wipe()", x.wipe(), 0);
    });
    sentence(1, "no image is kept", EdgesTest::emptyCourt);
    sentence(2, "FEAR of a KING becomes v: what it was. BEYOND.", () -> {
      HostageKings x = fresh();
      due("least king, most fear", x.fear(0, 99), 0);
      due("last king, most fear", x.fear(5, 99), 0);
      due("least fear", x.fear(0, 0), 99);
      due("one less than most", x.fear(0, 98), 0);
      due("the same", x.fear(0, 98), 98);
      for (int king : new int[] {-1, 6, MIN, MAX}) {
        due("fear(" + king + ", 1)", x.fear(king, 1), BEYOND);
      }
      for (int v : new int[] {-1, 100, MIN, MAX}) {
        due("fear(0, " + v + ")", x.fear(0, v), BEYOND);
      }
      due("as it was", x.kingOf(0, 0), 98);
      due("as it was", x.kingOf(5, 0), 99);
    });
    sentence(3, "1 CHILDREN (not DEAD) of his, as a set, 2 those that he HOLDS of others, as a set, "
        + "3 TREATIES IN FORCE that are his word, as a set", () -> {
      HostageKings x = fresh();
      for (int what = 0; what < 4; what++) {
        due("of nothing", x.kingOf(5, what), 0);
      }
      for (int c = 0; c < 14; c++) {
        abroad(x, 0, 0, 5, 99);
      }
      for (int t = 0; t < 12; t++) {
        x.treaty(0, 5, 0, t == 11 ? 0 : 1);
      }
      due("all children", x.kingOf(0, 1), ALL_CHILDREN);
      due("all held", x.kingOf(5, 2), ALL_CHILDREN);
      due("his own are not of others", x.kingOf(0, 2), 0);
      due("all words", x.kingOf(0, 3), ALL_TREATIES);
      due("words to him are not his", x.kingOf(5, 3), 0);
      x.move(13, 0);
      due("at home", x.kingOf(0, 1), ALL_CHILDREN);
      due("at home: held by his father", x.kingOf(0, 2), 0);
      due("at home: not held abroad", x.kingOf(5, 2), ALL_CHILDREN >> 1);
      x.dies(0);
      due("not a dead one", x.kingOf(0, 1), ALL_CHILDREN - 1);
      due("not a dead one", x.kingOf(5, 2), (ALL_CHILDREN >> 1) - 1);
      x.months(1);
      due("one is over", x.kingOf(0, 3), ALL_TREATIES >> 1);
      for (int c = 1; c < 13; c++) {
        x.worth(c, 0);
      }
      x.gain(0, 999);
      x.fall();
      due("one is broken", x.kingOf(0, 3), (ALL_TREATIES >> 1) - 1);
      x.months(1);
      due("all are over", x.kingOf(0, 3), 0);
    });
    sentence(3, "what 0 FEAR, 1 CHILDREN", () -> {
      HostageKings x = fresh();
      for (int what : new int[] {-1, 4, MIN, MAX}) {
        due("kingOf(0, " + what + ")", x.kingOf(0, what), BEYOND);
      }
      for (int king : new int[] {-1, 6, MIN, MAX}) {
        due("kingOf(" + king + ", 0)", x.kingOf(king, 0), BEYOND);
        due("kingOf(" + king + ", 3)", x.kingOf(king, 3), BEYOND);
      }
    });
    sentence(4, "A new CHILD, at HOME: its number.", () -> {
      HostageKings x = fresh();
      due("least of all", x.child(0, 0, 0), 0);
      due("most of all", x.child(5, 5, 99), 1);
      dueChild(x, 0, 0, 0, 0, 0, 0, 0);
      dueChild(x, 1, 5, 5, 5, 99, 0, 198);
    });
    sentence(4, "BEYOND: kind, father, worth. FULL.", () -> {
      HostageKings x = fresh();
      for (int full = 0; full < 2; full++) {
        for (int kind : new int[] {-1, 6, MIN, MAX}) {
          due("child(" + kind + ", 0, 0)", x.child(kind, 0, 0), BEYOND);
        }
        for (int father : new int[] {-1, 6, MIN, MAX}) {
          due("child(0, " + father + ", 0)", x.child(0, father, 0), BEYOND);
        }
        for (int worth : new int[] {-1, 100, MIN, MAX}) {
          due("child(0, 0, " + worth + ")", x.child(0, 0, worth), BEYOND);
        }
        due("as many as before", x.count(0), 14 * full);
        for (int c = 14 * full; c < 14; c++) {
          due("a good one", x.child(0, 0, 0), c);
        }
      }
      due("a 15th", x.child(0, 0, 0), FULL);
      x.dies(13);
      due("a dead one makes no room", x.child(0, 0, 0), FULL);
    });
    sentence(5, "4 1 if DEAD, else 0, 5 LOSS now (of a DEAD one 0). BEYOND.", () -> {
      HostageKings x = withChildren(13, 3, 5, 99);
      due("a 14th isn't there yet", x.of(13, 0), BEYOND);
      x.child(3, 5, 99);
      dueChild(x, 13, 3, 5, 5, 99, 0, 218);
      x.dies(13);
      dueChild(x, 13, 3, 5, 5, 99, 1, 0);
      for (int what : new int[] {-1, 6, MIN, MAX}) {
        due("of(0, " + what + ")", x.of(0, what), BEYOND);
      }
      for (int child : new int[] {-1, 14, 31, 32, MIN, MAX}) {
        due("of(" + child + ", 4)", x.of(child, 4), BEYOND);
      }
      due("in an empty court", fresh().of(0, 4), BEYOND);
    });
    actsOnChildren();
    deathsAndSwaps();
  }

  /** Every act that asks, with nothing there: it answers at once, and nothing is found wrong by it. */
  private static void emptyCourt() {
    HostageKings x = fresh();
    due("loose()", x.loose(), 0);
    due("fall()", x.fall(), 0);
    due("pledge(0, 5)", x.pledge(0, 5), 0);
    due("pact(0, 5)", x.pact(0, 5), 0);
    due("plot()", x.plot(), NONE);
    due("keystone()", x.keystone(), NONE);
    for (int what = 0; what < 4; what++) {
      due("wouldFall(" + what + ")", x.wouldFall(what), 0);
    }
    due("on(0)", x.on(0), 0);
    due("on(120)", x.on(120), 0);
    dueMoves(x, 0, NONE, NONE);
    due("best(0)", x.best(0), BEYOND);
    due("key(0)", x.key(0), NONE);
    due("toFree(0, 5)", x.toFree(0, 5), 0);
    due("court()", x.court(), -1);
    due("pulls(0)", x.pulls(0), BEYOND);
    due("ease(0)", x.ease(0), BEYOND);
    due("gain(0, 0)", x.gain(0, 0), BEYOND);
    due("move(0, 0)", x.move(0, 0), BEYOND);
    due("worth(0, 0)", x.worth(0, 0), BEYOND);
    due("turn(0, 0)", x.turn(0, 0), BEYOND);
    due("as(0, 0)", x.as(0, 0), BEYOND);
    due("dies(0)", x.dies(0), BEYOND);
    due("swap(0, 1)", x.swap(0, 1), BEYOND);
    due("months(1)", x.months(1), 0);
  }

  private static void actsOnChildren() {
    sentence(6, "A CHILD (not DEAD) comes to a HOLDER: where it was. BEYOND. STATE: DEAD.", () -> {
      HostageKings x = withChildren(14, 0, 3, 1);
      due("the first to the first", x.move(0, 0), 3);
      due("the last to the last", x.move(13, 5), 3);
      due("where it is", x.move(13, 5), 5);
      due("home", x.move(13, 3), 5);
      for (int child : new int[] {-1, 14, MIN, MAX}) {
        due("move(" + child + ", 0)", x.move(child, 0), BEYOND);
      }
      for (int holder : new int[] {-1, 6, MIN, MAX}) {
        due("move(13, " + holder + ")", x.move(13, holder), BEYOND);
      }
      due("it stays", x.of(13, 2), 3);
      x.dies(13);
      due("a dead one", x.move(13, 0), STATE);
      due("a dead one to where it is", x.move(13, 3), STATE);
      due("a dead one nowhere", x.move(13, 6), BEYOND);
      due("it stays", x.of(13, 2), 3);
    });
    sentence(7, "WORTH of a CHILD becomes v: what it was. BEYOND.", () -> {
      HostageKings x = withChildren(14, 0, 3, 1);
      due("least", x.worth(0, 0), 1);
      due("most", x.worth(13, 99), 1);
      due("the same", x.worth(13, 99), 99);
      for (int child : new int[] {-1, 14, MIN, MAX}) {
        due("worth(" + child + ", 0)", x.worth(child, 0), BEYOND);
      }
      for (int v : new int[] {-1, 100, MIN, MAX}) {
        due("worth(13, " + v + ")", x.worth(13, v), BEYOND);
      }
      due("it stays", x.of(13, 3), 99);
      x.dies(13);
      due("a dead one's, no finding is named", x.worth(13, 0), 99);
      due("0", x.of(13, 3), 0);
    });
    sentence(8, "A CHILD becomes one of another KIND: what it was. BEYOND.", () -> {
      HostageKings x = withChildren(14, 1, 3, 1);
      due("the first kind", x.turn(0, 0), 1);
      due("the last kind", x.turn(13, 5), 1);
      for (int child : new int[] {-1, 14, MIN, MAX}) {
        due("turn(" + child + ", 0)", x.turn(child, 0), BEYOND);
      }
      for (int kind : new int[] {-1, 6, MIN, MAX}) {
        due("turn(13, " + kind + ")", x.turn(13, kind), BEYOND);
      }
      due("it stays", x.of(13, 0), 5);
      x.dies(13);
      due("a dead one, no finding is named", x.turn(13, 2), 5);
      due("2", x.of(13, 0), 2);
    });
    sentence(9, "A CHILD as one of a kind: HOLDER. BEYOND: no such CHILD, kind.", () -> {
      HostageKings x = withChildren(14, 5, 3, 1);
      x.move(13, 5);
      due("the first", x.as(0, 5), 3);
      due("the last", x.as(13, 0), 5);
      for (int child : new int[] {-1, 14, MIN, MAX}) {
        due("as(" + child + ", 0)", x.as(child, 0), BEYOND);
      }
      for (int kind : new int[] {-1, 6, MIN, MAX}) {
        due("as(13, " + kind + ")", x.as(13, kind), BEYOND);
      }
      due("beyond both ways", x.as(14, 6), BEYOND);
    });
    sentence(9, "KIND: it isn't of that kind, nor of one under it.", () -> {
      kindsUnderKinds();
      HostageKings x = withChildren(1, 3, 4, 1);
      x.dies(0);
      due("a dead one of that kind", x.as(0, 3), 4);
      due("a dead one of another", x.as(0, 5), KIND);
      x.turn(0, 5);
      due("turned", x.as(0, 5), 4);
      due("turned", x.as(0, 3), KIND);
    });
  }

  private static void deathsAndSwaps() {
    sentence(10, "A CHILD dies: how many TREATIES are LOOSE then that weren't.", () -> {
      HostageKings x = withTreaties(12, 0, 1, 1);
      x.fear(0, 1);
      abroad(x, 0, 0, 1, 9);
      due("none", x.dies(0), 0);
      HostageKings y = fresh();
      abroad(y, 0, 0, 1, 9);
      for (int t = 0; t < 12; t++) {
        y.treaty(0, 1, 9, 9);
      }
      due("all", y.dies(0), 12);
      HostageKings z = fresh();
      abroad(z, 0, 0, 1, 9);
      abroad(z, 0, 0, 1, 2);
      z.treaty(0, 1, 11, 9);
      z.treaty(0, 1, 12, 9);
      z.treaty(0, 1, 2, 9);
      z.treaty(0, 1, 11, 0);
      z.treaty(0, 2, 0, 9);
      due("those that were loose are left out", z.dies(0), 2);
      due("loose", z.loose(), 0b01011);
      HostageKings w = fresh();
      abroad(w, 5, 0, 1, 10);
      w.child(5, 0, 10);
      w.treaty(0, 1, 20, 9);
      due("loose", w.loose(), 1);
      due("one that was loose holds then", w.dies(1), 0);
      due("loose", w.loose(), 0);
    });
    sentence(10, "BEYOND. STATE: it is DEAD.", () -> {
      HostageKings x = withChildren(14, 0, 3, 1);
      for (int child : new int[] {-1, 14, 32, MIN, MAX}) {
        due("dies(" + child + ")", x.dies(child), BEYOND);
      }
      due("all live", x.now(3), 14);
      due("the first", x.dies(0), 0);
      due("the last", x.dies(13), 0);
      due("again", x.dies(0), STATE);
      due("again", x.dies(13), STATE);
      for (int child : new int[] {-1, 14, 32, -32, 45}) {
        due("dies(" + child + ")", x.dies(child), BEYOND);
        due("move(" + child + ", 0)", x.move(child, 0), BEYOND);
        due("swap(" + child + ", 1)", x.swap(child, 1), BEYOND);
      }
      due("as many", x.now(3), 12);
    });
    sentence(11, "Two CHILDREN (neither DEAD) change HOLDERS: 1. BEYOND (also one and the same). STATE.", () -> {
      HostageKings x = withChildren(14, 0, 3, 1);
      x.move(0, 0);
      x.move(13, 5);
      due("the first and the last", x.swap(0, 13), 1);
      due("0", x.of(0, 2), 5);
      due("13", x.of(13, 2), 0);
      due("the last and the first", x.swap(13, 0), 1);
      due("0", x.of(0, 2), 0);
      due("13", x.of(13, 2), 5);
      due("of one holder", x.swap(1, 2), 1);
      due("1", x.of(1, 2), 3);
      due("one and the same", x.swap(0, 0), BEYOND);
      due("one and the same", x.swap(13, 13), BEYOND);
      for (int child : new int[] {-1, 14, MIN, MAX}) {
        due("swap(" + child + ", 0)", x.swap(child, 0), BEYOND);
        due("swap(0, " + child + ")", x.swap(0, child), BEYOND);
        due("swap(" + child + ", " + child + ")", x.swap(child, child), BEYOND);
      }
      x.dies(13);
      due("one is dead", x.swap(13, 0), STATE);
      due("the other one is dead", x.swap(0, 13), STATE);
      due("dead, one and the same", x.swap(13, 13), BEYOND);
      due("dead, no such other", x.swap(13, 14), BEYOND);
      x.dies(0);
      due("both are dead", x.swap(0, 13), STATE);
      due("0", x.of(0, 2), 0);
      due("13", x.of(13, 2), 5);
    });
  }

  // ---- treaties

  private static void treaties() {
    sentence(12, "A new TREATY: its number.", () -> {
      HostageKings x = fresh();
      due("least of all", x.treaty(0, 1, 0, 0), 0);
      due("most of all", x.treaty(5, 4, 999, 999), 1);
      dueTreaty(x, 0, 0, 1, 0, 0, 0, 1, 0);
      dueTreaty(x, 1, 5, 4, 999, 999, 0, 1, 1);
      x.fear(5, 99);
      x.months(1);
      due("one over at once", x.treaty(0, 1, 0, 0), 2);
      dueTreaty(x, 2, 0, 1, 0, 0, 0, 0, 0);
    });
    sentence(12, "BEYOND: kings (unlike), gain, until. FULL.", () -> {
      HostageKings x = fresh();
      for (int full = 0; full < 2; full++) {
        for (int king : new int[] {-1, 6, MIN, MAX}) {
          due("treaty(" + king + ", 0, 0, 0)", x.treaty(king, 0, 0, 0), BEYOND);
          due("treaty(0, " + king + ", 0, 0)", x.treaty(0, king, 0, 0), BEYOND);
        }
        for (int king = 0; king < 6; king++) {
          due("treaty(" + king + ", " + king + ", 0, 0)", x.treaty(king, king, 0, 0), BEYOND);
        }
        for (int v : new int[] {-1, 1000, MIN, MAX}) {
          due("treaty(0, 1, " + v + ", 0)", x.treaty(0, 1, v, 0), BEYOND);
          due("treaty(0, 1, 0, " + v + ")", x.treaty(0, 1, 0, v), BEYOND);
        }
        due("as many as before", x.count(1), 12 * full);
        for (int t = 12 * full; t < 12; t++) {
          due("a good one", x.treaty(0, 1, 1, 0), t);
        }
      }
      due("a 13th", x.treaty(0, 1, 0, 0), FULL);
      x.months(1);
      due("broken ones make no room", x.treaty(0, 1, 0, 0), FULL);
    });
    sentence(13, "4 1 if BROKEN, 5 1 if IN FORCE, 6 1 if LOOSE (else 0). BEYOND.", () -> {
      HostageKings x = withTreaties(12, 5, 0, 0);
      dueTreaty(x, 11, 5, 0, 0, 999, 0, 1, 0);
      x.gain(11, 1);
      dueTreaty(x, 11, 5, 0, 1, 999, 0, 1, 1);
      dueTreaty(x, 10, 5, 0, 0, 999, 0, 1, 0);
      x.fall();
      dueTreaty(x, 11, 5, 0, 1, 999, 1, 0, 0);
      for (int what : new int[] {-1, 7, MIN, MAX}) {
        due("treatyOf(0, " + what + ")", x.treatyOf(0, what), BEYOND);
      }
      for (int treaty : new int[] {-1, 12, 32, MIN, MAX}) {
        due("treatyOf(" + treaty + ", 4)", x.treatyOf(treaty, 4), BEYOND);
      }
    });
    sentence(14, "GAIN of a TREATY becomes v: what it was. BEYOND.", () -> {
      HostageKings x = withTreaties(12, 5, 0, 1);
      due("least", x.gain(0, 0), 1);
      due("most", x.gain(11, 999), 1);
      due("the same", x.gain(11, 999), 999);
      for (int treaty : new int[] {-1, 12, MIN, MAX}) {
        due("gain(" + treaty + ", 0)", x.gain(treaty, 0), BEYOND);
      }
      for (int v : new int[] {-1, 1000, MIN, MAX}) {
        due("gain(11, " + v + ")", x.gain(11, v), BEYOND);
      }
      due("it stays", x.treatyOf(11, 2), 999);
      x.fall();
      due("of a broken one, no finding is named", x.gain(11, 0), 999);
      due("0", x.treatyOf(11, 2), 0);
    });
    sentence(15, "PLEDGE that a KING holds of another one. BEYOND (also one and the same).", () -> {
      HostageKings x = fresh();
      abroad(x, 0, 0, 5, 99);
      due("the last of the first", x.pledge(5, 0), 99);
      due("the first of the last", x.pledge(0, 5), 0);
      for (int king = 0; king < 6; king++) {
        due("pledge(" + king + ", " + king + ")", x.pledge(king, king), BEYOND);
      }
      for (int king : new int[] {-1, 6, MIN, MAX}) {
        due("pledge(" + king + ", 0)", x.pledge(king, 0), BEYOND);
        due("pledge(0, " + king + ")", x.pledge(0, king), BEYOND);
        due("pledge(" + king + ", " + king + ")", x.pledge(king, king), BEYOND);
      }
    });
    sentence(16, "By how much PLEDGE and FEAR are more than the GAIN of a TREATY (below 0: LOOSE).", () -> {
      HostageKings x = withTreaties(1, 0, 5, 0);
      due("0 and 0 and 0", x.ease(0), 0);
      x.gain(0, 999);
      due("the least", x.ease(0), -999);
      x.gain(0, 0);
      x.fear(0, 99);
      for (int c = 0; c < 14; c++) {
        abroad(x, 3, 0, 5, 99);
      }
      due("the most", x.ease(0), 14 * 218 + 99);
    });
    sentence(16, "BEYOND. STATE: it isn't IN FORCE.", () -> {
      HostageKings x = fresh();
      x.treaty(0, 5, 1, 9);
      x.treaty(0, 5, 0, 0);
      x.treaty(0, 5, 0, 1);
      for (int treaty : new int[] {-1, 3, MIN, MAX}) {
        due("ease(" + treaty + ")", x.ease(treaty), BEYOND);
      }
      due("in its last month", x.ease(1), 0);
      due("loose", x.ease(0), -1);
      x.months(1);
      due("broken", x.ease(0), STATE);
      due("over", x.ease(1), STATE);
      due("in its last month", x.ease(2), 0);
      for (int treaty : new int[] {-1, 3, 32, -32}) {
        due("ease(" + treaty + ")", x.ease(treaty), BEYOND);
      }
    });
    sentence(17, "LOOSE TREATIES, as a set.", () -> {
      due("of none", fresh().loose(), 0);
      HostageKings x = withTreaties(12, 0, 5, 1);
      due("all", x.loose(), ALL_TREATIES);
      x.fear(0, 1);
      due("none", x.loose(), 0);
    });
    sentence(18, "Whether a PACT PAYS: 1, 0. BEYOND (also one and the same).", () -> {
      HostageKings x = withTreaties(1, 0, 1, 1);
      due("a word between them", x.pact(0, 1), 0);
      due("a word to a third one", x.pact(0, 5), 1);
      due("a word to a third one", x.pact(5, 0), 1);
      due("no word of theirs", x.pact(1, 5), 0);
      for (int king = 0; king < 6; king++) {
        due("pact(" + king + ", " + king + ")", x.pact(king, king), BEYOND);
      }
      for (int king : new int[] {-1, 6, MIN, MAX}) {
        due("pact(" + king + ", 0)", x.pact(king, 0), BEYOND);
        due("pact(0, " + king + ")", x.pact(0, king), BEYOND);
        due("pact(" + king + ", " + king + ")", x.pact(king, king), BEYOND);
      }
    });
    sentence(19, "The first PACT that PAYS: 10 times the lesser KING, and the other one. NONE.", () -> {
      due("of none", fresh().plot(), NONE);
      HostageKings x = withTreaties(1, 1, 2, 9);
      due("the first of all", x.plot(), 1);
      x.treaty(4, 1, 9, 9);
      x.gain(0, 0);
      due("0 and 4", x.plot(), 4);
      x.fear(0, 9);
      x.fear(2, 9);
      x.fear(3, 9);
      due("the last of all", x.plot(), 45);
      x.fear(5, 9);
      due("none", x.plot(), NONE);
    });
  }

  // ---- falls

  /** King 0's words to 1: one loose, one that hangs on two children, one that hangs on nothing. */
  private static HostageKings shaky() {
    HostageKings x = fresh();
    abroad(x, 0, 0, 1, 10);
    abroad(x, 0, 0, 1, 10);
    abroad(x, 0, 0, 2, 10);
    x.treaty(0, 1, 21, 9);
    x.treaty(0, 1, 20, 9);
    x.treaty(0, 1, 0, 9);
    x.treaty(0, 2, 10, 9);
    return x;
  }

  private static void falls() {
    sentence(20, "A FALL: ROUNDS.", () -> {
      due("of nothing", fresh().fall(), 0);
      HostageKings x = shaky();
      due("two", x.fall(), 2);
      due("broken", brokenSet(x), 0b0011);
      due("dead", deadSet(x), 0b011);
      due("no month goes", x.now(0), 0);
      due("none", x.fall(), 0);
      HostageKings y = withTreaties(12, 5, 0, 1);
      due("all at once", y.fall(), 1);
      due("broken", brokenSet(y), ALL_TREATIES);
    });
    sentence(21, "what 0 ROUNDS, 1 TREATIES BROKEN by it, as a set, 2 CHILDREN DEAD by it, as a set, "
        + "3 TREATIES BROKEN in its first ROUND, as a set. BEYOND.", () -> {
      HostageKings x = shaky();
      int[] want = {2, 0b0011, 0b011, 0b0001};
      for (int what = 0; what < 4; what++) {
        due("wouldFall(" + what + ")", x.wouldFall(what), want[what]);
      }
      for (int what : new int[] {-1, 4, MIN, MAX}) {
        due("wouldFall(" + what + ")", x.wouldFall(what), BEYOND);
      }
      due("it isn't made", brokenSet(x), 0);
      due("it isn't made", deadSet(x), 0);
      x.fall();
      for (int what = 0; what < 4; what++) {
        due("wouldFall(" + what + ") behind one", x.wouldFall(what), 0);
      }
      HostageKings y = withTreaties(12, 5, 0, 999);
      for (int c = 0; c < 14; c++) {
        abroad(y, 0, 5, 0, 1);
      }
      due("one round", y.wouldFall(0), 1);
      due("all broken", y.wouldFall(1), ALL_TREATIES);
      due("all dead", y.wouldFall(2), ALL_CHILDREN);
      due("all in the first", y.wouldFall(3), ALL_TREATIES);
    });
    sentence(22, "were one BROKEN now first (CHILDREN of BY that TO holds DEAD by it), as a set (that one, too).", () -> {
      HostageKings x = shaky();
      due("with the loose one", x.pulls(0), 0b0011);
      due("with one that hangs on nothing", x.pulls(2), 0b0111);
      due("with another one's", x.pulls(3), 0b1011);
      x.gain(0, 20);
      due("the children's death loosens both", x.pulls(2), 0b0111);
      due("that one alone", x.pulls(3), 0b1000);
      due("it isn't made", brokenSet(x), 0);
      due("it isn't made", deadSet(x), 0);
      HostageKings y = withTreaties(12, 5, 0, 9);
      abroad(y, 0, 5, 0, 9);
      due("all with the last", y.pulls(11), ALL_TREATIES);
      due("all with the first", y.pulls(0), ALL_TREATIES);
    });
    sentence(22, "BEYOND. STATE: it isn't IN FORCE.", () -> {
      HostageKings x = fresh();
      x.treaty(0, 5, 1, 9);
      x.treaty(0, 5, 0, 0);
      x.treaty(0, 5, 0, 1);
      for (int treaty : new int[] {-1, 3, 32, MIN, MAX}) {
        due("pulls(" + treaty + ")", x.pulls(treaty), BEYOND);
      }
      due("in its last month", x.pulls(1), 0b011);
      x.months(1);
      due("broken", x.pulls(0), STATE);
      due("over", x.pulls(1), STATE);
      due("in its last month", x.pulls(2), 0b100);
    });
    sentence(23, "of several (also of none) the least. NONE: none is IN FORCE.", () -> {
      due("no treaty", fresh().keystone(), NONE);
      HostageKings x = fresh();
      x.treaty(0, 1, 0, 0);
      x.treaty(1, 2, 0, 1);
      x.treaty(2, 3, 0, 1);
      due("each brings none down", x.keystone(), 0);
      x.months(1);
      due("the least in force", x.keystone(), 1);
      x.months(1);
      due("all are over", x.keystone(), NONE);
      HostageKings y = withTreaties(1, 0, 1, 1);
      y.fall();
      due("all are broken", y.keystone(), NONE);
      HostageKings z = fresh();
      abroad(z, 0, 0, 1, 10);
      abroad(z, 0, 1, 0, 10);
      abroad(z, 0, 2, 0, 10);
      z.treaty(3, 4, 0, 9);
      z.treaty(0, 1, 10, 9);
      z.treaty(0, 1, 10, 9);
      z.treaty(1, 0, 10, 9);
      z.treaty(1, 0, 10, 9);
      due("of several the least", z.keystone(), 1);
      z.treaty(2, 0, 10, 9);
      z.treaty(2, 0, 10, 9);
      z.treaty(2, 0, 10, 9);
      due("most others", z.keystone(), 5);
    });
    sentence(24, "n MONTHS go (1 to 60): how many TREATIES are BROKEN by them.", () -> {
      HostageKings x = shaky();
      for (int n : new int[] {0, -1, 61, MIN, MAX}) {
        due("months(" + n + ")", x.months(n), BEYOND);
      }
      due("no month went", x.now(0), 0);
      due("months(1)", x.months(1), 2);
      due("one month", x.now(0), 1);
      due("months(60)", x.months(60), 0);
      due("61 months", x.now(0), 61);
      HostageKings y = withTreaties(12, 0, 1, 1);
      due("all", y.months(60), 12);
      HostageKings z = fresh();
      z.treaty(0, 1, 1, 0);
      z.fear(0, 1);
      z.months(1);
      z.fear(0, 0);
      due("one that is over isn't broken", z.months(1), 0);
    });
    sentence(24, "BEYOND. STATE: MONTH would be above 999.", () -> {
      HostageKings x = fresh();
      goTo(x, 939);
      due("999 by 60", x.months(60), 0);
      due("999", x.now(0), 999);
      due("one more", x.months(1), STATE);
      due("sixty more", x.months(60), STATE);
      due("61: BEYOND first", x.months(61), BEYOND);
      due("0: BEYOND first", x.months(0), BEYOND);
      due("999", x.now(0), 999);
      HostageKings y = withTreaties(1, 0, 1, 0);
      goTo(y, 940);
      y.gain(0, 1);
      due("1000 by 60", y.months(60), STATE);
      due("no month went", y.now(0), 940);
      due("nothing is broken", y.now(2), 0);
      due("999 by 59", y.months(59), 1);
      due("999", y.now(0), 999);
    });
    countsOfNow();
    sentence(26, "Which TREATIES are IN FORCE ON n MONTHS (0 to 120), as a set.", () -> {
      HostageKings x = fresh();
      x.treaty(0, 1, 0, 0);
      x.treaty(0, 1, 0, 1);
      x.treaty(0, 1, 0, 119);
      x.treaty(0, 1, 0, 120);
      x.treaty(2, 3, 1, 999);
      for (int n : new int[] {-1, 121, MIN, MAX}) {
        due("on(" + n + ")", x.on(n), BEYOND);
      }
      due("on(0), no fall yet", x.on(0), 0b11111);
      due("on(1)", x.on(1), 0b01110);
      due("on(2)", x.on(2), 0b01100);
      due("on(119)", x.on(119), 0b01100);
      due("on(120)", x.on(120), 0b01000);
      HostageKings y = withTreaties(12, 0, 1, 0);
      due("all twelve", y.on(120), ALL_TREATIES);
    });
    sentence(26, "BEYOND. STATE: MONTH would be above 999.", () -> {
      HostageKings x = withTreaties(1, 0, 1, 0);
      goTo(x, 879);
      due("999 by 120", x.on(120), 1);
      x.months(1);
      due("1000 by 120", x.on(120), STATE);
      due("999 by 119", x.on(119), 1);
      due("121: BEYOND first", x.on(121), BEYOND);
      goTo(x, 999);
      due("on(0)", x.on(0), 1);
      due("on(1)", x.on(1), STATE);
      due("-1: BEYOND first", x.on(-1), BEYOND);
    });
  }

  private static void countsOfNow() {
    sentence(25, "1 TREATIES IN FORCE, how many, 2 BROKEN ones, 3 CHILDREN not DEAD, 4 those of these at HOME. BEYOND.", () -> {
      HostageKings x = withChildren(14, 0, 3, 1);
      for (int t = 0; t < 12; t++) {
        x.treaty(0, 1, t < 4 ? 1 : 0, t < 8 ? 1 : 0);
      }
      int[] full = {0, 12, 0, 14, 14};
      for (int what = 0; what < 5; what++) {
        due("now(" + what + ")", x.now(what), full[what]);
      }
      x.move(0, 0);
      x.move(1, 1);
      x.dies(1);
      x.dies(2);
      x.months(1);
      int[] then = {1, 4, 4, 12, 11};
      for (int what = 0; what < 5; what++) {
        due("now(" + what + ")", x.now(what), then[what]);
      }
      for (int what : new int[] {-1, 5, MIN, MAX}) {
        due("now(" + what + ")", x.now(what), BEYOND);
      }
    });
  }

  // ---- moves

  private static void moves() {
    sentence(27, "what 0 how many, 1 and 2 the first, second: 6 times the CHILD, and the HOLDER.", () -> {
      HostageKings x = withChildren(14, 0, 5, 0);
      x.treaty(5, 0, 1, 9);
      x.worth(13, 1);
      dueMoves(x, 1, 6 * 13, NONE);
      x.treaty(5, 4, 1, 9);
      x.worth(12, 1);
      dueMoves(x, 2, 6 * 12, 6 * 13 + 4);
      x.worth(0, 1);
      dueMoves(x, 2, 0, 6 * 12 + 4);
      due("nobody is moved", x.now(4), 14);
    });
    sentence(27, "6 times the CHILD, and the HOLDER", () -> {
      HostageKings x = fresh();
      abroad(x, 0, 3, 1, 10);
      x.treaty(3, 0, 10, 9);
      due("the least there can be", x.moves(1), 0);
      HostageKings y = withChildren(14, 0, 0, 0);
      y.worth(13, 9);
      y.worth(12, 9);
      y.treaty(0, 5, 18, 9);
      dueMoves(y, 2, 6 * 12 + 5, 6 * 13 + 5);
      y.gain(0, 9);
      y.worth(12, 8);
      dueMoves(y, 1, 6 * 13 + 5, NONE);
    });
    sentence(27, "MOVES: what 0 how many, 1 and 2 the first, second", () -> {
      HostageKings x = fresh();
      x.child(0, 0, 10);
      x.child(0, 5, 10);
      x.treaty(0, 1, 10, 9);
      x.treaty(5, 4, 10, 9);
      dueMoves(x, 2, 0 * 6 + 1, 1 * 6 + 4);
      x.worth(1, 9);
      dueMoves(x, NONE, NONE, NONE);
      x.worth(1, 10);
      x.worth(0, 9);
      dueMoves(x, NONE, NONE, NONE);
      x.worth(0, 10);
      x.treaty(3, 4, 1, 9);
      dueMoves(x, NONE, NONE, NONE);
      x.fear(3, 1);
      x.fear(0, 10);
      dueMoves(x, 1, 1 * 6 + 4, NONE);
      for (int stays = 0; stays < 3; stays++) {
        dueMoves(oneHolds(stays), 2, 6 * (stays == 0 ? 1 : 0) + 2, 6 * (stays == 2 ? 1 : 2) + 3);
      }
    });
    sentence(27, "BEYOND. NONE: there is no such plan, or it has not so many.", () -> {
      HostageKings x = fresh();
      for (int what : new int[] {-1, 3, MIN, MAX}) {
        due("moves(" + what + ")", x.moves(what), BEYOND);
      }
      dueMoves(x, 0, NONE, NONE);
      x.treaty(0, 1, 1, 9);
      dueMoves(x, NONE, NONE, NONE);
      for (int what : new int[] {-1, 3}) {
        due("moves(" + what + ")", x.moves(what), BEYOND);
      }
      HostageKings y = withChildren(14, 0, 0, 1);
      for (int t = 0; t < 12; t++) {
        y.treaty(0, 1 + t % 5, 3, 9);
      }
      dueMoves(y, NONE, NONE, NONE);
      due("nobody is moved in a full court", y.now(4), 14);
    });
    sentence(28, "(those that are now, too; its HOLDER now, too): the least HOLDER of several.", () -> {
      HostageKings x = withChildren(1, 0, 3, 10);
      due("nothing hangs on it", x.best(0), 0);
      x.treaty(3, 5, 10, 9);
      due("the last king", x.best(0), 5);
      x.treaty(3, 4, 10, 9);
      due("of two the least", x.best(0), 4);
      x.treaty(3, 5, 10, 9);
      due("fewest loose", x.best(0), 5);
      x.move(0, 5);
      due("its holder now", x.best(0), 5);
      x.worth(0, 9);
      due("where it helps nowhere", x.best(0), 0);
      HostageKings y = withTreaties(12, 3, 4, 10);
      y.child(0, 3, 9);
      due("twelve loose everywhere", y.best(0), 0);
      y.gain(11, 9);
      due("eleven loose there", y.best(0), 4);
      HostageKings z = fresh();
      abroad(z, 5, 0, 1, 10);
      z.child(5, 0, 10);
      z.treaty(0, 1, 20, 9);
      due("abroad it makes its twin worth more", z.best(1), 1);
      z.move(0, 2);
      z.gain(0, 0);
      z.treaty(0, 2, 20, 9);
      due("anywhere but home", z.best(1), 1);
    });
    sentence(28, "BEYOND. STATE: DEAD.", () -> {
      HostageKings x = withChildren(14, 0, 3, 10);
      for (int child : new int[] {-1, 14, MIN, MAX}) {
        due("best(" + child + ")", x.best(child), BEYOND);
      }
      due("the last", x.best(13), 0);
      x.dies(13);
      due("a dead one", x.best(13), STATE);
      x.dies(0);
      due("a dead one", x.best(0), STATE);
      for (int child : new int[] {-1, 14, 32, -32, 45}) {
        due("best(" + child + ")", x.best(child), BEYOND);
      }
    });
    sentence(29, "of several the least. BEYOND. NONE: none makes any.", () -> {
      HostageKings x = fresh();
      for (int king : new int[] {-1, 6, MIN, MAX}) {
        due("key(" + king + ")", x.key(king), BEYOND);
      }
      due("no child", x.key(0), NONE);
      due("no child", x.key(5), NONE);
      x.child(0, 5, 10);
      abroad(x, 0, 5, 0, 10);
      abroad(x, 0, 5, 0, 10);
      x.treaty(5, 0, 10, 9);
      due("one of the two is enough", x.key(5), NONE);
      x.gain(0, 11);
      due("of several the least", x.key(5), 1);
      x.gain(0, 21);
      due("it is loose already", x.key(5), NONE);
      x.gain(0, 20);
      x.treaty(5, 1, 10, 9);
      x.treaty(5, 1, 9, 9);
      abroad(x, 0, 5, 1, 10);
      due("most", x.key(5), 3);
      x.dies(3);
      due("a dead one makes none", x.key(5), 1);
      abroad(x, 0, 5, 2, 10);
      x.treaty(5, 2, 10, 9);
      due("another king's child who would come to him", x.key(0), NONE);
      HostageKings y = fresh();
      abroad(y, 0, 0, 1, 10);
      y.treaty(0, 1, 10, 9);
      due("the first child of the first king", y.key(0), 0);
      HostageKings z = withChildren(13, 0, 0, 1);
      abroad(z, 5, 5, 4, 10);
      z.treaty(5, 4, 20, 9);
      due("the last child of the last king", z.key(5), 13);
    });
    sentence(30, "CHILDREN (not DEAD) of BY that TO holds, if some TREATY IN FORCE is BY's word to TO; else none: as a set. "
        + "BEYOND (also one and the same).", () -> {
      HostageKings x = fresh();
      for (int c = 0; c < 14; c++) {
        abroad(x, 0, 5, 0, 1);
      }
      due("no word", x.toFree(5, 0), 0);
      x.treaty(0, 5, 0, 9);
      due("a word the other way", x.toFree(5, 0), 0);
      x.treaty(5, 1, 0, 9);
      due("a word to another one", x.toFree(5, 0), 0);
      x.treaty(5, 0, 0, 0);
      due("all", x.toFree(5, 0), ALL_CHILDREN);
      due("none of the other one's", x.toFree(0, 5), 0);
      x.dies(0);
      x.move(1, 1);
      due("all but a dead one and one elsewhere", x.toFree(5, 0), ALL_CHILDREN - 3);
      x.months(1);
      due("it is over", x.toFree(5, 0), 0);
      x.treaty(2, 0, 0, 9);
      due("another one's word to him", x.toFree(5, 0), 0);
      x.treaty(5, 0, 999, 9);
      due("some word is in force", x.toFree(5, 0), ALL_CHILDREN - 3);
      x.fall();
      due("it is broken", x.toFree(5, 0), 0);
      HostageKings y = fresh();
      abroad(y, 0, 0, 5, 1);
      y.treaty(0, 5, 0, 0);
      due("the first treaty, the first child", y.toFree(0, 5), 1);
      for (int king = 0; king < 6; king++) {
        due("toFree(" + king + ", " + king + ")", x.toFree(king, king), BEYOND);
      }
      for (int king : new int[] {-1, 6, MIN, MAX}) {
        due("toFree(" + king + ", 0)", x.toFree(king, 0), BEYOND);
        due("toFree(5, " + king + ")", x.toFree(5, king), BEYOND);
      }
    });
    ways();
  }

  /** Three children of king 0: one holds his word to 1 where it is, the others would hold those to 2 and 3. */
  private static HostageKings oneHolds(int stays) {
    HostageKings x = fresh();
    for (int c = 0; c < 3; c++) {
      x.child(0, 0, c == stays ? 30 : 10);
    }
    x.move(stays, 1);
    x.treaty(0, 1, 30, 9);
    x.treaty(0, 2, 10, 9);
    x.treaty(0, 3, 10, 9);
    return x;
  }

  private static void ways() {
    sentence(31, "what -1 how many moves, i the i-th CHILD (0 to 7).", () -> {
      HostageKings x = withChildren(14, 0, 0, 1);
      lay(x, 0, 1, 1, 1, 1, 1, 1, 1, 1);
      dueWay(x, 0, 0, 1, 2, 3, 4, 5, 6, 7);
      lay(x, 0, 0, 0, 0, 0, 0, 0, 1, 1, 1, 1, 1, 1, 1, 1);
      dueWay(x, 0, 6, 7, 8, 9, 10, 11, 12, 13);
      due("nobody is moved", x.now(4), 14);
    });
    sentence(31, "BEYOND: no such sheet. MISSING. BEYOND: what.", () -> {
      HostageKings x = withChildren(1, 0, 0, 1);
      x.sheet(3, 8, 1);
      for (int s : new int[] {-1, 4, MIN, MAX}) {
        due("way(" + s + ", -1)", x.way(s, -1), BEYOND);
        due("way(" + s + ", 8)", x.way(s, 8), BEYOND);
      }
      for (int what : new int[] {-2, 8, MIN, MAX}) {
        due("way(3, " + what + ")", x.way(3, what), BEYOND);
        due("way(0, " + what + ") of one that is missing", x.way(0, what), MISSING);
      }
      due("way(3, 7)", x.way(3, 7), NONE);
      due("way(3, -1)", x.way(3, -1), 0);
      due("way(0, -1)", x.way(0, -1), MISSING);
    });
    sentence(31, "SIZE: more than 8 are to be moved. STATE: one that is to be moved is DEAD.", () -> {
      HostageKings x = withChildren(14, 0, 0, 1);
      lay(x, 0, 1, 1, 1, 1, 1, 1, 1, 1, 1);
      due("nine", x.way(0, -1), SIZE);
      due("nine, what is beyond", x.way(0, 8), BEYOND);
      due("nine, what is beyond", x.way(0, -2), BEYOND);
      lay(x, 1, 1, 1, 1, 1, 1, 1, 1, 1, 0, 0, 0, 0, 0, 0);
      due("eight, the others stay", x.way(1, -1), 8);
      x.dies(8);
      due("nine, one of them dead", x.way(0, -1), SIZE);
      due("eight, a dead one stays", x.way(1, -1), 8);
      x.dies(7);
      due("eight, the last one dead", x.way(1, -1), STATE);
      due("eight, the last one dead", x.way(1, 0), STATE);
      due("eight, the last one dead", x.way(1, 7), STATE);
      due("eight, the last one dead, what is beyond", x.way(1, 8), BEYOND);
      x.write(1, 7, 0);
      due("seven, the dead ones stay", x.way(1, -1), 7);
      x.dies(0);
      due("seven, the first one dead", x.way(1, -1), STATE);
      lay(x, 2, 1, 1, 1, 1, 1, 1, 1, 1, 1, 1, 1, 1, 1, 1);
      due("all", x.way(2, -1), SIZE);
      x.treaty(0, 1, 999, 9);
      lay(x, 2, 1);
      due("dead, and no way holds", x.way(2, -1), STATE);
    });
    sentence(31, "NONE: no WAY holds, or it has not so many.", () -> {
      HostageKings x = withChildren(2, 0, 0, 10);
      lay(x, 0, 0, 1);
      dueWay(x, 0, 1);
      x.treaty(0, 1, 11, 9);
      dueNoWay(x, 0);
      lay(x, 0, 1, 1);
      dueNoWay(x, 0);
      x.gain(0, 10);
      dueWay(x, 0, 0, 1);
    });
    sentence(31, "the first by numbers of CHILDREN moved one behind the other", () -> {
      HostageKings x = fresh();
      abroad(x, 0, 0, 1, 10);
      x.child(0, 0, 1);
      x.child(0, 0, 10);
      x.child(0, 0, 10);
      x.treaty(0, 1, 10, 9);
      lay(x, 0, 0, 2, 1, 1);
      dueWay(x, 0, 1, 2, 0, 3);
      x.gain(0, 20);
      dueWay(x, 0, 2, 1, 3, 0);
      x.worth(0, 20);
      dueWay(x, 0, 1, 2, 3, 0);
      HostageKings y = fresh();
      abroad(y, 0, 0, 2, 10);
      abroad(y, 0, 0, 1, 10);
      abroad(y, 0, 0, 1, 10);
      abroad(y, 0, 0, 1, 10);
      y.treaty(0, 1, 20, 9);
      y.treaty(0, 2, 10, 9);
      lay(y, 0, 1, 2, 3, 1);
      dueWay(y, 0, 1, 0, 2);
      HostageKings z = fresh();
      abroad(z, 0, 0, 1, 10);
      abroad(z, 0, 0, 1, 10);
      abroad(z, 0, 0, 2, 10);
      abroad(z, 0, 0, 1, 10);
      z.treaty(0, 1, 20, 9);
      z.treaty(0, 2, 10, 9);
      lay(z, 0, 3, 2, 1, 1);
      dueWay(z, 0, 1, 2, 0);
      lay(z, 0, 3, 2, 3, 1);
      dueNoWay(z, 0);
    });
    sentence(31, "(Numbers that aren't 0 to 5, or stand for no CHILD, are left out.)", () -> {
      HostageKings x = withChildren(2, 0, 1, 10);
      lay(x, 0, -1, 6, 3, 3);
      dueWay(x, 0);
      lay(x, 0, 0, 5, 3, 3);
      dueWay(x, 0, 0, 1);
      lay(x, 0, -128, 127);
      dueWay(x, 0);
      lay(x, 0, 256, 261);
      dueWay(x, 0, 0, 1);
      x.sheet(1, 64, 2);
      x.write(1, 0, 1L << 32);
      x.write(1, 1, (1L << 32) + 5);
      dueWay(x, 1);
      x.write(1, 1, 5);
      dueWay(x, 1, 1);
      x.sheet(2, 16, 0);
      dueWay(x, 2);
      x.sheet(3, 16, 40);
      dueWay(x, 3, 0, 1);
      HostageKings y = fresh();
      y.sheet(0, 64, 40);
      dueWay(y, 0);
    });
  }

  // ---- the text

  private static void theText() {
    sentence(32, "THE TAPE gets the n lowest bytes of a number behind it, the highest of these first (n 1 to 4): how many it has.",
        () -> {
      HostageKings x = fresh();
      due("4", x.feed('k' << 24 | 'i' << 16 | 'n' << 8 | 'g', 4), 4);
      due("1", x.feed(-256 | '0', 1), 5);
      due("3", x.feed('?' << 24 | 'f' << 16 | 'e' << 8 | 'a', 3), 8);
      due("2", x.feed(-65536 | 'r' << 8 | '7', 2), 10);
      due("court()", x.court(), 1);
      due("fear", x.kingOf(0, 0), 7);
      x.feed(MIN | ' ' << 16 | ' ' << 8 | ' ', 4);
      due("a byte above 127 is no token", x.court(), -1);
      x.feed(0x20202080, 4);
      due("a byte above 127 is no token", x.court(), -4);
    });
    sentence(32, "BEYOND: n. FULL.", () -> {
      HostageKings x = fresh();
      for (int i = 0; i < 29; i++) {
        x.feed(0x20202020, 4);
      }
      for (int n : new int[] {0, -1, 5, MIN, MAX}) {
        due("feed(0, " + n + ")", x.feed(0, n), BEYOND);
      }
      due("117", x.feed(' ', 1), 117);
      due("121 by 4", x.feed(0, 4), FULL);
      due("nothing came", x.count(2), 117);
      due("120 by 3", x.feed(0x202020, 3), 120);
      for (int n = 1; n < 5; n++) {
        due("more by " + n, x.feed(0, n), FULL);
      }
      for (int n : new int[] {0, -1, 5, MIN, MAX}) {
        due("feed(0, " + n + "): BEYOND first", x.feed(0, n), BEYOND);
      }
      due("nothing came", x.count(2), 120);
      due("all blank still", x.court(), -121);
    });
    sentence(33, "THE TAPE is empty: how many it had.", () -> {
      HostageKings x = fresh();
      due("empty", x.wipe(), 0);
      feedAll(x, " ".repeat(120));
      due("full", x.wipe(), 120);
      due("empty", x.count(2), 0);
      due("empty", x.wipe(), 0);
      due("room again", x.feed('x', 1), 1);
      due("what was there is gone", x.court(), -1);
    });
    sentence(34, "THE TAPE is THE TEXT of a COURT, whose ITEMS come to what there is, and empty then: how many ITEMS.", () -> {
      HostageKings x = withChildren(1, 0, 0, 1);
      x.fear(1, 9);
      x.treaty(0, 1, 0, 0);
      x.months(1);
      due("three", told(x, "king 0 fear 8;twin of 5 with 0 worth 99;word 5 to 0 gain 999"), 3);
      due("empty then", x.count(2), 0);
      due("fear", x.kingOf(0, 0), 8);
      due("what there was", x.kingOf(1, 0), 9);
      dueChild(x, 0, 0, 0, 0, 1);
      dueChild(x, 1, 5, 5, 0, 99, 0, 198);
      dueTreaty(x, 0, 0, 1, 0, 0);
      dueTreaty(x, 1, 5, 0, 999, 999, 0, 1, 1);
      due("the month stays", x.now(0), 1);
      String text = "child of 0;".repeat(10) + "twin of 5";
      due("a text as long as can be", told(x, text + " ".repeat(120 - text.length())), 11);
      due("so many children", x.count(0), 13);
      due("the 14th", told(x, "lost of 4 with 3 worth 98"), 1);
      dueChild(x, 13, 4, 4, 3, 98, 0, 44);
      for (int t = 2; t < 11; t++) {
        x.treaty(0, 1, 0, 0);
      }
      due("the 12th", told(x, "word 4 to 3 gain 998 until 7"), 1);
      dueTreaty(x, 11, 4, 3, 998, 7, 0, 1, 1);
      dueTreaty(x, 10, 0, 1, 0, 0, 0, 0, 0);
      due("again: empty", x.court(), -1);
    });
    sentence(34, "With a FAULT: -1 less its place (nothing changes but that THE TAPE is empty; no finding).", () -> {
      HostageKings x = fresh();
      x.fear(0, 5);
      due("at the first place", told(x, "5"), -1);
      due("behind good items", told(x, "king 0 fear 1;twin of 1;word 0 to 1 gain 1;king 6"), -49);
      due("empty", x.count(2), 0);
      due("fear", x.kingOf(0, 0), 5);
      due("children", x.count(0), 0);
      due("treaties", x.count(1), 0);
      due("an empty tape", x.court(), -1);
      due("no finding", x.status(-1), 0);
    });
  }

  // ---- sheets

  private static void sheets() {
    sentence(35, "A sheet has n numbers, all 0, of 8, 16 or 64 bits; bits 0: it is MISSING: n (0 if it is MISSING).", () -> {
      HostageKings x = fresh();
      for (int bits : new int[] {8, 16, 64}) {
        due("of none", x.sheet(0, bits, 0), 0);
        due("it isn't missing", x.write(0, 0, 1), BEYOND);
        due("of one", x.sheet(0, bits, 1), 1);
        due("its number", x.write(0, 0, 1), 0);
        due("no other", x.write(0, 1, 1), BEYOND);
        due("of the most", x.sheet(0, bits, 40), 40);
        due("all 0", x.write(0, 0, 1), 0);
        due("all 0", x.write(0, 39, 1), 0);
        due("no other", x.write(0, 40, 1), BEYOND);
        due("laid anew", x.sheet(0, bits, 40), 40);
        due("all 0", x.write(0, 0, 1), 0);
        due("all 0", x.write(0, 39, 1), 0);
        due("missing", x.sheet(0, 0, 40), 0);
        due("missing", x.write(0, 0, 1), MISSING);
        due("missing again", x.sheet(0, 0, 0), 0);
      }
      due("the last sheet", x.sheet(3, 8, 2), 2);
      due("the others stay", x.read(1), MISSING);
    });
    sentence(35, "BEYOND: no such sheet, other bits. SIZE: n is below 0 (also with bits 0). "
        + "BEYOND: n is above 40 (also with bits 0).", () -> {
      HostageKings x = fresh();
      x.sheet(0, 8, 1);
      x.write(0, 0, 7);
      for (int s : new int[] {-1, 4, MIN, MAX}) {
        due("sheet(" + s + ", 8, 1)", x.sheet(s, 8, 1), BEYOND);
        due("sheet(" + s + ", 8, -1): BEYOND first", x.sheet(s, 8, -1), BEYOND);
      }
      for (int bits : new int[] {-1, 1, 7, 9, 15, 17, 32, 63, 65, -8, -16, -64, 128, MIN, MAX}) {
        due("sheet(0, " + bits + ", 1)", x.sheet(0, bits, 1), BEYOND);
        due("sheet(0, " + bits + ", -1): BEYOND first", x.sheet(0, bits, -1), BEYOND);
      }
      for (int bits : new int[] {0, 8, 16, 64}) {
        due("-1", x.sheet(0, bits, -1), SIZE);
        due("least", x.sheet(0, bits, MIN), SIZE);
        due("41", x.sheet(0, bits, 41), BEYOND);
        due("most", x.sheet(0, bits, MAX), BEYOND);
      }
      dueNumbers(x, 0, 7);
    });
    sentence(36, "Number i of a sheet becomes v (its lowest bits): what it was.", () -> {
      numbersNarrowed();
      HostageKings x = fresh();
      x.sheet(0, 64, 40);
      due("the first", x.write(0, 0, BEYOND), 0);
      due("the last", x.write(0, 39, 9), 0);
      due("a number like a finding", x.write(0, 0, 1), BEYOND);
      due("isn't one", x.status(-1), 0);
    });
    sentence(36, "BEYOND: no such sheet. MISSING. BEYOND: no such number.", () -> {
      HostageKings x = fresh();
      x.sheet(3, 8, 40);
      x.sheet(2, 8, 0);
      for (int s : new int[] {-1, 4, MIN, MAX}) {
        due("write(" + s + ", 0, 0)", x.write(s, 0, 0), BEYOND);
      }
      for (int i : new int[] {-1, 40, MIN, MAX}) {
        due("write(3, " + i + ", 0)", x.write(3, i, 0), BEYOND);
        due("write(0, " + i + ", 0)", x.write(0, i, 0), MISSING);
      }
      due("of none", x.write(2, 0, 0), BEYOND);
      due("MISSING", x.write(0, 0, 0), MISSING);
      due("the last", x.write(3, 39, 0), 0);
    });
    copies();
    holdersOfSheets();
  }

  private static void copies() {
    sentence(37, "n numbers of a sheet from one on come to another one from one on (as they all were): n.", () -> {
      HostageKings x = fresh();
      lay(x, 0, 1, 2, 3, 4, 5);
      due("all of itself", x.copy(0, 0, 0, 0, 5), 5);
      dueNumbers(x, 0, 1, 2, 3, 4, 5);
      due("up", x.copy(0, 0, 0, 1, 4), 4);
      dueNumbers(x, 0, 1, 1, 2, 3, 4);
      due("down", x.copy(0, 1, 0, 0, 4), 4);
      dueNumbers(x, 0, 1, 2, 3, 4, 4);
      lay(x, 1, 9, 9);
      due("the last to the last", x.copy(0, 4, 1, 1, 1), 1);
      dueNumbers(x, 1, 9, 4);
      due("none", x.copy(0, 0, 1, 0, 0), 0);
      due("none at the ends", x.copy(0, 5, 1, 2, 0), 0);
      dueNumbers(x, 1, 9, 4);
      HostageKings y = fresh();
      y.sheet(2, 64, 40);
      y.sheet(3, 64, 40);
      y.write(2, 0, Long.MIN_VALUE);
      y.write(2, 39, Long.MAX_VALUE);
      due("forty", y.copy(2, 0, 3, 0, 40), 40);
      due("the first", y.write(3, 0, 0), Long.MIN_VALUE);
      due("the last", y.write(3, 39, 0), Long.MAX_VALUE);
      y.sheet(0, 16, 0);
      y.sheet(1, 16, 0);
      due("of no numbers", y.copy(0, 0, 1, 0, 0), 0);
      due("of no numbers", y.copy(0, 0, 1, 0, 1), BEYOND);
    });
    sentence(37, "BEYOND: no such sheet (either). MISSING: one is. KIND: they are not of as many bits.", () -> {
      HostageKings x = fresh();
      x.sheet(0, 8, 2);
      x.sheet(1, 16, 2);
      x.sheet(2, 64, 2);
      for (int s : new int[] {-1, 4, MIN, MAX}) {
        due("copy(" + s + ", 0, 0, 0, 1)", x.copy(s, 0, 0, 0, 1), BEYOND);
        due("copy(0, 0, " + s + ", 0, 1)", x.copy(0, 0, s, 0, 1), BEYOND);
        due("copy(" + s + ", 0, 3, 0, 1): BEYOND first", x.copy(s, 0, 3, 0, 1), BEYOND);
        due("copy(3, 0, " + s + ", 0, 1): BEYOND first", x.copy(3, 0, s, 0, 1), BEYOND);
      }
      for (int s = 0; s < 4; s++) {
        due("copy(" + s + ", 0, 3, 0, 1)", x.copy(s, 0, 3, 0, 1), MISSING);
        due("copy(3, 0, " + s + ", 0, 1)", x.copy(3, 0, s, 0, 1), MISSING);
        due("copy(3, -1, " + s + ", 0, 1): MISSING first", x.copy(3, -1, s, 0, 1), MISSING);
        for (int t = 0; t < 3 && s < 3; t++) {
          due("copy(" + s + ", 0, " + t + ", 0, 2)", x.copy(s, 0, t, 0, 2), s == t ? 2 : KIND);
          due("copy(" + s + ", 0, " + t + ", 0, 3)", x.copy(s, 0, t, 0, 3), s == t ? BEYOND : KIND);
          due("copy(" + s + ", -1, " + t + ", 0, 0)", x.copy(s, -1, t, 0, 0), s == t ? BEYOND : KIND);
        }
      }
    });
    sentence(37, "BEYOND: one has not so many, or from, to or n is below 0.", () -> {
      HostageKings x = fresh();
      lay(x, 0, 1, 2, 3);
      lay(x, 1, 4, 5);
      due("all that fit", x.copy(0, 1, 1, 0, 2), 2);
      due("one has not so many", x.copy(0, 2, 1, 0, 2), BEYOND);
      due("the other one has not so many", x.copy(0, 0, 1, 1, 2), BEYOND);
      due("the other one has not so many", x.copy(0, 0, 1, 0, 3), BEYOND);
      due("from -1", x.copy(0, -1, 1, 0, 1), BEYOND);
      due("to -1", x.copy(0, 0, 1, -1, 1), BEYOND);
      due("n -1", x.copy(0, 1, 1, 1, -1), BEYOND);
      due("n -1 at the ends", x.copy(0, 3, 1, 2, -1), BEYOND);
      due("none from -1", x.copy(0, -1, 1, 0, 0), BEYOND);
      due("none to -1", x.copy(0, 0, 1, -1, 0), BEYOND);
      for (int far : new int[] {MIN, MAX, MIN + 1, MAX - 1, 41}) {
        due("from " + far, x.copy(0, far, 1, 0, 1), BEYOND);
        due("to " + far, x.copy(0, 0, 1, far, 1), BEYOND);
        due("n " + far, x.copy(0, 0, 1, 0, far), BEYOND);
        due("all " + far, x.copy(0, far, 1, far, far), BEYOND);
      }
      due("sums that wrap", x.copy(0, MAX, 1, 0, 2), BEYOND);
      due("sums that wrap", x.copy(0, 2, 1, 2, MAX), BEYOND);
      dueNumbers(x, 0, 1, 2, 3);
      dueNumbers(x, 1, 2, 3);
    });
  }

  private static void holdersOfSheets() {
    sentence(38, "(those that aren't 0 to 5, stand for none, or for a DEAD one, are left out): how many weren't left out.", () -> {
      HostageKings x = withChildren(4, 0, 1, 1);
      x.dies(3);
      lay(x, 0, 0, 5, 1, 0, 0);
      due("the first king, the last, where it is; a dead one; none", x.lays(0), 3);
      int[] holders = {0, 5, 1, 1};
      for (int c = 0; c < 4; c++) {
        due("holder of " + c, x.of(c, 2), holders[c]);
      }
      lay(x, 0, -1, 6, -128, 2);
      due("none", x.lays(0), 0);
      lay(x, 0, 255, 256, 261, 262);
      due("numbers narrowed: -1, 0, 5, 6", x.lays(0), 2);
      int[] then = {0, 0, 5, 1};
      for (int c = 0; c < 4; c++) {
        due("holder of " + c, x.of(c, 2), then[c]);
      }
      x.sheet(1, 64, 1);
      x.write(1, 0, (1L << 32) + 3);
      due("too large, though its low half isn't", x.lays(1), 0);
      x.write(1, 0, Long.MIN_VALUE);
      due("too small, though its low half isn't", x.lays(1), 0);
      due("holder of 0", x.of(0, 2), 0);
      x.sheet(2, 16, 0);
      due("of no numbers", x.lays(2), 0);
      HostageKings y = withChildren(14, 0, 1, 1);
      y.sheet(0, 16, 40);
      due("of the most numbers, of the most children", y.lays(0), 14);
      due("all with king 0", y.kingOf(0, 2), ALL_CHILDREN);
      due("in an empty court", layForty().lays(0), 0);
    });
    sentence(38, "BEYOND: no such sheet. MISSING.", () -> {
      HostageKings x = withChildren(1, 0, 1, 1);
      x.sheet(3, 8, 1);
      for (int s : new int[] {-1, 4, MIN, MAX}) {
        due("lays(" + s + ")", x.lays(s), BEYOND);
      }
      due("lays(0)", x.lays(0), MISSING);
      due("lays(3)", x.lays(3), 1);
    });
    sentence(39, "(-1 for DEAD ones) come to a sheet, as far as it has numbers: how many.", () -> {
      HostageKings x = withChildren(14, 0, 5, 1);
      x.move(0, 0);
      x.dies(12);
      x.sheet(0, 8, 13);
      due("one too few", x.roll(0), 13);
      dueNumbers(x, 0, 0, 5, 5, 5, 5, 5, 5, 5, 5, 5, 5, 5, -1);
      x.sheet(1, 16, 15);
      x.write(1, 14, 9);
      due("one too many", x.roll(1), 14);
      due("the last one's", x.write(1, 13, 0), 5);
      due("the one behind it stays", x.write(1, 14, 0), 9);
      x.sheet(2, 64, 0);
      due("of no numbers", x.roll(2), 0);
      x.sheet(3, 64, 40);
      x.write(3, 39, Long.MAX_VALUE);
      due("of the most numbers", x.roll(3), 14);
      due("-1", x.write(3, 12, 0), -1);
      due("the last one stays", x.write(3, 39, 0), Long.MAX_VALUE);
      due("in an empty court", layForty().roll(0), 0);
    });
    sentence(39, "BEYOND: no such sheet. MISSING.", () -> {
      HostageKings x = withChildren(1, 0, 1, 1);
      x.sheet(3, 8, 1);
      for (int s : new int[] {-1, 4, MIN, MAX}) {
        due("roll(" + s + ")", x.roll(s), BEYOND);
      }
      due("roll(0)", x.roll(0), MISSING);
      due("roll(3)", x.roll(3), 1);
    });
    sentence(40, "0 if all are, and as many as CHILDREN; else 1 and the place of the first that isn't "
        + "(1 and how many, if more must come).", () -> {
      HostageKings x = fresh();
      x.sheet(0, 8, 0);
      due("none of none", x.read(0), 0);
      lay(x, 0, 0);
      due("one of none", x.read(0), 1);
      due("forty of none", layForty().read(0), 1);
      x = withChildren(14, 0, 5, 1);
      x.sheet(1, 8, 0);
      due("none of fourteen", x.read(1), 1);
      x.sheet(1, 8, 13);
      x.roll(1);
      due("thirteen of fourteen", x.read(1), 14);
      x.sheet(1, 8, 14);
      x.roll(1);
      due("fourteen", x.read(1), 0);
      x.write(1, 13, 4);
      due("the last isn't", x.read(1), 14);
      x.write(1, 0, 4);
      due("the first isn't, nor the last", x.read(1), 1);
      x.write(1, 0, 256 + 5);
      x.write(1, 13, 5 - 256);
      due("as narrowed", x.read(1), 0);
      x.dies(6);
      due("a dead one's holder", x.read(1), 7);
      x.write(1, 6, 255);
      due("-1, as narrowed", x.read(1), 0);
      x.write(1, 7, -1);
      due("-1 for one not dead", x.read(1), 8);
      x.sheet(2, 16, 15);
      x.roll(2);
      due("fifteen of fourteen", x.read(2), 15);
      x.sheet(2, 64, 40);
      x.roll(2);
      due("forty of fourteen", x.read(2), 15);
      x.write(2, 0, (1L << 32) + 5);
      due("its low half is", x.read(2), 1);
    });
    sentence(40, "BEYOND: no such sheet. MISSING.", () -> {
      HostageKings x = fresh();
      x.sheet(3, 8, 0);
      for (int s : new int[] {-1, 4, MIN, MAX}) {
        due("read(" + s + ")", x.read(s), BEYOND);
      }
      due("read(0)", x.read(0), MISSING);
      due("read(3)", x.read(3), 0);
    });
  }

  private static HostageKings layForty() {
    HostageKings x = fresh();
    x.sheet(0, 8, 40);
    return x;
  }

  // ---- images

  private static void images() {
    sentence(41, "All that section 1 tells (THE TAPE not) is kept: 1.", () -> {
      HostageKings x = fresh();
      due("of nothing", x.image(), 1);
      fullCourt(x);
      feedAll(x, "abc");
      lay(x, 0, 1, 2);
      due("back to nothing", x.undo(), 0);
      for (int what = 0; what < 5; what++) {
        due("now(" + what + ")", x.now(what), 0);
      }
      due("count(1)", x.count(1), 0);
      due("fear", x.kingOf(5, 0), 0);
      due("the tape stays", x.count(2), 3);
      dueNumbers(x, 0, 1, 2);
      HostageKings y = fresh();
      fullCourt(y);
      due("of a full court", y.image(), 1);
      changeAll(y);
      due("fourteen", y.undo(), 14);
      dueFullCourt(y);
    });
    sentence(42, "It becomes what was kept latest (which stays): how many CHILDREN. NONE: nothing is kept.", () -> {
      HostageKings x = fresh();
      due("nothing is kept", x.undo(), NONE);
      x.child(0, 0, 0);
      x.image();
      x.child(0, 0, 0);
      x.image();
      x.child(0, 0, 0);
      due("the latest", x.undo(), 2);
      x.dies(1);
      x.fear(5, 5);
      due("it stays", x.undo(), 2);
      due("not dead", x.of(1, 4), 0);
      due("no fear", x.kingOf(5, 0), 0);
      due("at once again", x.undo(), 2);
      x.tear();
      due("nothing is kept", x.undo(), NONE);
      due("as it was", x.count(0), 2);
      HostageKings y = fresh();
      fullCourt(y);
      y.image();
      y.tear();
      due("torn", y.undo(), NONE);
      dueFullCourt(y);
    });
    sentence(43, "Nothing is kept: 1 if something was, else 0.", () -> {
      HostageKings x = fresh();
      due("nothing was", x.tear(), 0);
      x.image();
      x.image();
      due("something was", x.tear(), 1);
      due("nothing is", x.tear(), 0);
      due("nothing is", x.undo(), NONE);
      x.image();
      x.undo();
      due("it stays behind undo()", x.tear(), 1);
    });
    sentence(44, "0 CHILDREN, 1 TREATIES, 2 bytes of THE TAPE, 3 LOSSES of all (not DEAD) abroad together. BEYOND: another what.",
        () -> {
      HostageKings x = fresh();
      for (int c = 0; c < 14; c++) {
        abroad(x, 3, c % 6, (c + 1) % 6, 99);
      }
      for (int t = 0; t < 12; t++) {
        x.treaty(0, 1, 999, 0);
      }
      feedAll(x, " ".repeat(120));
      int[] most = {14, 12, 120, 14 * 218};
      for (int what = 0; what < 4; what++) {
        due("count(" + what + ")", x.count(what), most[what]);
        due("count(" + what + ") of nothing", fresh().count(what), 0);
      }
      for (int what : new int[] {-1, 4, MIN, MAX}) {
        due("count(" + what + ")", x.count(what), BEYOND);
      }
      x.move(13, 1);
      due("one at home", x.count(3), 13 * 218);
      x.dies(1);
      due("one dead", x.count(3), 12 * 218);
      x.months(1);
      due("dead ones count", x.count(0), 14);
      due("broken ones count", x.count(1), 12);
      due("three of king 0 are dead by it", x.count(3), 9 * 218);
    });
    sentence(45, "How many acts answered a finding ever (undo() takes none back): which -1: all, 0 to 6: BEYOND to SIZE.", () -> {
      HostageKings x = withChildren(14, 0, 0, 0);
      for (int which = -1; which < 7; which++) {
        due("status(" + which + ") of none", x.status(which), 0);
      }
      x.image();
      x.dies(0);
      int[] want = new int[7];
      for (int round = 1; round <= 2; round++) {
        due("BEYOND", x.fear(6, 0), BEYOND);
        due("FULL", x.child(0, 0, 0), FULL);
        due("KIND", x.as(0, 1), KIND);
        due("NONE", x.plot(), NONE);
        due("STATE", x.dies(0), STATE);
        due("MISSING", x.write(0, 0, 0), MISSING);
        due("SIZE", x.sheet(0, 8, -1), SIZE);
        Arrays.fill(want, round);
        dueStatus(x, want);
      }
      x.undo();
      dueStatus(x, want);
      x.tear();
      due("undo() finds none", x.undo(), NONE);
      want[3]++;
      dueStatus(x, want);
      due("a fault is none", x.court(), -1);
      dueStatus(x, want);
    });
    sentence(45, "BEYOND (counted from then on): another one.", () -> {
      HostageKings x = fresh();
      due("status(-2)", x.status(-2), BEYOND);
      due("one", x.status(0), 1);
      due("status(7)", x.status(7), BEYOND);
      due("two", x.status(-1), 2);
      due("status(min)", x.status(MIN), BEYOND);
      due("status(max)", x.status(MAX), BEYOND);
      due("four", x.status(0), 4);
      due("the last one", x.status(6), 0);
    });
  }

  private static void dueStatus(HostageKings x, int[] want) {
    int all = 0;
    for (int which = 0; which < 7; which++) {
      due("status(" + which + ")", x.status(which), want[which]);
      all += want[which];
    }
    due("status(-1)", x.status(-1), all);
  }

  /** Fourteen children, twelve treaties, some dead and broken, and a month above 0. */
  private static void fullCourt(HostageKings x) {
    for (int king = 0; king < 6; king++) {
      x.fear(king, 10 + king);
    }
    for (int c = 0; c < 14; c++) {
      abroad(x, c % 6, c % 5, 5, 50 + c);
    }
    for (int t = 0; t < 12; t++) {
      x.treaty(t % 6, (t + 1) % 6, t == 11 ? 99 : t, 900 + t);
    }
    x.dies(13);
    x.months(7);
  }

  private static void changeAll(HostageKings x) {
    for (int king = 0; king < 6; king++) {
      x.fear(king, 0);
    }
    for (int c = 0; c < 14; c++) {
      x.turn(c, 5 - c % 6);
      x.move(c, 0);
      x.worth(c, c);
      x.dies(c);
    }
    for (int t = 0; t < 12; t++) {
      x.gain(t, 999);
    }
    x.months(60);
  }

  private static void dueFullCourt(HostageKings x) {
    for (int king = 0; king < 6; king++) {
      due("fear of " + king, x.kingOf(king, 0), 10 + king);
    }
    for (int c = 0; c < 14; c++) {
      dueChild(x, c, c % 6, c % 5, 5, 50 + c, c == 13 ? 1 : 0);
    }
    for (int t = 0; t < 12; t++) {
      dueTreaty(x, t, t % 6, (t + 1) % 6, t == 11 ? 99 : t, 900 + t, t == 11 ? 1 : 0, t == 11 ? 0 : 1);
    }
    due("month", x.now(0), 7);
  }
}
