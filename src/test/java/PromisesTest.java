/** For each promise of the document: ordinary inputs, the edges that it names, and wrong inputs. */
public final class PromisesTest {
  private static final int BEYOND = -1000000001;
  private static final int FULL = -1000000002;
  private static final int KIND = -1000000003;
  private static final int NONE = -1000000004;
  private static final int STATE = -1000000005;
  private static final int MISSING = -1000000006;
  private static final int SIZE = -1000000007;
  private static final int[] FAR = {Integer.MIN_VALUE, -1000000001, -2, 1000, Integer.MAX_VALUE};

  private static int asked = 0;
  private static int wrong = 0;
  private static int promise = 0;

  private static void due(String call, long got, long want) {
    asked++;
    if (got != want) {
      wrong++;
      System.out.println("promise " + promise + ": " + call + " answered " + got + ", due is " + want);
    }
  }

  public static void main(String[] args) {
    Runnable[] promises = {
      PromisesTest::p1, PromisesTest::p2, PromisesTest::p3, PromisesTest::p4, PromisesTest::p5,
      PromisesTest::p6, PromisesTest::p7, PromisesTest::p8, PromisesTest::p9, PromisesTest::p10,
      PromisesTest::p11, PromisesTest::p12, PromisesTest::p13, PromisesTest::p14, PromisesTest::p15,
      PromisesTest::p16, PromisesTest::p17, PromisesTest::p18, PromisesTest::p19, PromisesTest::p20,
      PromisesTest::p21, PromisesTest::p22, PromisesTest::p23, PromisesTest::p24, PromisesTest::p25,
      PromisesTest::p26, PromisesTest::p27, PromisesTest::p28, PromisesTest::p29, PromisesTest::p30,
      PromisesTest::p31, PromisesTest::p32, PromisesTest::p33, PromisesTest::p34, PromisesTest::p35,
      PromisesTest::p36, PromisesTest::p37, PromisesTest::p38, PromisesTest::p39, PromisesTest::p40,
      PromisesTest::p41, PromisesTest::p42, PromisesTest::p43, PromisesTest::p44, PromisesTest::p45};
    for (Runnable next : promises) {
      promise++;
      next.run();
    }
    fullCourt();
    System.out.println(asked + " answers looked at, " + wrong + " not as due");
    if (wrong != 0) {
      System.exit(1);
    }
  }

  private static HostageKings fresh() {
    return new HostageKings();
  }

  private static void feedAll(HostageKings x, String text) {
    for (int i = 0; i < text.length(); i++) {
      x.feed(text.charAt(i), 1);
    }
  }

  private static int told(HostageKings x, String text) {
    feedAll(x, text);
    return x.court();
  }

  /** A child of a kind, not at home. */
  private static int abroad(HostageKings x, int kind, int father, int holder, int worth) {
    int c = x.child(kind, father, worth);
    x.move(c, holder);
    return c;
  }

  private static void laySheet(HostageKings x, int s, int... numbers) {
    x.sheet(s, 8, numbers.length);
    for (int i = 0; i < numbers.length; i++) {
      x.write(s, i, numbers[i]);
    }
  }

  /** As many children and treaties as can be: every act still answers (promises 3 to 40). */
  private static void fullCourt() {
    HostageKings x = fresh();
    for (int c = 0; c < 14; c++) {
      abroad(x, 0, c < 7 ? 0 : 5, c < 7 ? 5 : 0, 10);
    }
    for (int t = 0; t < 12; t++) {
      x.treaty(t < 6 ? 0 : 5, t < 6 ? 5 : 0, t == 11 ? 71 : 70, 999);
    }
    promise = 3;
    due("kingOf(5, 1)", x.kingOf(5, 1), 0b11111110000000);
    due("kingOf(0, 2)", x.kingOf(0, 2), 0b11111110000000);
    due("kingOf(5, 3)", x.kingOf(5, 3), 0b111111000000);
    promise = 15;
    due("pledge(0, 5)", x.pledge(0, 5), 70);
    promise = 17;
    due("loose()", x.loose(), 0b100000000000);
    promise = 18;
    due("pact(0, 5)", x.pact(0, 5), 0);
    due("pact(4, 5)", x.pact(4, 5), 1);
    promise = 19;
    due("plot()", x.plot(), 1);
    promise = 21;
    due("wouldFall(0)", x.wouldFall(0), 2);
    due("wouldFall(1)", x.wouldFall(1), 0b111111000000);
    due("wouldFall(2)", x.wouldFall(2), 0b11111110000000);
    promise = 22;
    due("pulls(0)", x.pulls(0), 0b111111111111);
    promise = 23;
    due("keystone()", x.keystone(), 0);
    promise = 25;
    due("now(1)", x.now(1), 12);
    due("now(3)", x.now(3), 14);
    due("now(4)", x.now(4), 0);
    promise = 26;
    due("on(120)", x.on(120), 0b000000111111);
    promise = 27;
    dueMoves(x, NONE, NONE, NONE);
    x.move(13, 5);
    x.move(12, 5);
    x.gain(11, 70);
    dueMoves(x, 2, 6 * 12, 6 * 13);
    x.move(12, 0);
    dueMoves(x, 1, 6 * 13, NONE);
    promise = 28;
    due("best(13)", x.best(13), 0);
    x.move(13, 0);
    promise = 29;
    due("key(5)", x.key(5), 7);
    due("key(1)", x.key(1), NONE);
    promise = 30;
    due("toFree(5, 0)", x.toFree(5, 0), 0b11111110000000);
    due("toFree(5, 1)", x.toFree(5, 1), 0);
    promise = 31;
    laySheet(x, 0, 5, 5, 5, 5, 5, 5, 5, 0, 0, 0, 0, 0, 0, 0);
    dueWay(x, 0);
    laySheet(x, 1, 4, 4, 4, 4, 4, 4, 4, 4, 4, 4, 4, 4, 4, 4);
    due("fourteen", x.way(1, -1), SIZE);
    promise = 40;
    due("read(0)", x.read(0), 0);
    promise = 44;
    due("count(3)", x.count(3), 140);
    promise = 20;
    x.gain(11, 71);
    due("fall()", x.fall(), 2);
    due("now(3)", x.now(3), 7);
    due("now(2)", x.now(2), 6);
  }

  private static void p1() {
    HostageKings x = fresh();
    due("count(0)", x.count(0), 0);
    due("count(1)", x.count(1), 0);
    due("count(2)", x.count(2), 0);
    due("count(3)", x.count(3), 0);
    for (int what = 0; what < 5; what++) {
      due("now(" + what + ")", x.now(what), 0);
    }
    for (int king = 0; king < 6; king++) {
      for (int what = 0; what < 4; what++) {
        due("kingOf(" + king + ", " + what + ")", x.kingOf(king, what), 0);
      }
    }
    due("status(-1)", x.status(-1), 0);
    due("tear()", x.tear(), 0);
    due("undo()", x.undo(), NONE);
    for (int s = 0; s < 4; s++) {
      due("write(" + s + ", 0, 0)", x.write(s, 0, 0), MISSING);
    }
  }

  private static void p2() {
    HostageKings x = fresh();
    due("fear(0, 99)", x.fear(0, 99), 0);
    due("fear(0, 0)", x.fear(0, 0), 99);
    due("fear(0, 7)", x.fear(0, 7), 0);
    due("fear(5, 1)", x.fear(5, 1), 0);
    due("fear(-1, 1)", x.fear(-1, 1), BEYOND);
    due("fear(6, 1)", x.fear(6, 1), BEYOND);
    due("fear(0, -1)", x.fear(0, -1), BEYOND);
    due("fear(0, 100)", x.fear(0, 100), BEYOND);
    for (int far : FAR) {
      due("fear(far, 1)", x.fear(far, 1), BEYOND);
      due("fear(1, far)", x.fear(1, far), BEYOND);
    }
    due("kingOf(0, 0)", x.kingOf(0, 0), 7);
    due("kingOf(1, 0)", x.kingOf(1, 0), 0);
    due("kingOf(5, 0)", x.kingOf(5, 0), 1);
  }

  private static void p3() {
    HostageKings x = fresh();
    x.fear(2, 40);
    x.child(0, 2, 1);
    abroad(x, 0, 2, 3, 1);
    abroad(x, 0, 3, 2, 1);
    abroad(x, 0, 4, 2, 1);
    abroad(x, 0, 2, 4, 1);
    x.treaty(2, 3, 0, 0);
    x.treaty(3, 2, 0, 5);
    x.treaty(2, 4, 0, 5);
    x.treaty(2, 5, 500, 999);
    due("kingOf(2, 0)", x.kingOf(2, 0), 40);
    due("kingOf(2, 1)", x.kingOf(2, 1), 0b10011);
    due("kingOf(2, 2)", x.kingOf(2, 2), 0b01100);
    due("kingOf(2, 3)", x.kingOf(2, 3), 0b1101);
    x.dies(1);
    x.dies(2);
    due("kingOf(2, 1) less a dead one", x.kingOf(2, 1), 0b10001);
    due("kingOf(2, 2) less a dead one", x.kingOf(2, 2), 0b01000);
    x.months(1);
    due("kingOf(2, 3) less one over and one broken", x.kingOf(2, 3), 0b0100);
    due("kingOf(3, 3)", x.kingOf(3, 3), 0b0010);
    x.move(0, 0);
    due("kingOf(0, 2)", x.kingOf(0, 2), 0b00001);
    due("kingOf(6, 0)", x.kingOf(6, 0), BEYOND);
    due("kingOf(-1, 0)", x.kingOf(-1, 0), BEYOND);
    due("kingOf(2, 4)", x.kingOf(2, 4), BEYOND);
    due("kingOf(2, -1)", x.kingOf(2, -1), BEYOND);
    for (int far : FAR) {
      due("kingOf(far, 1)", x.kingOf(far, 1), BEYOND);
      due("kingOf(1, far)", x.kingOf(1, far), BEYOND);
    }
  }

  private static void p4() {
    HostageKings x = fresh();
    due("child(0, 0, 0)", x.child(0, 0, 0), 0);
    due("child(5, 5, 99)", x.child(5, 5, 99), 1);
    due("at home", x.of(1, 2), 5);
    due("not dead", x.of(1, 4), 0);
    due("child(-1, 0, 0)", x.child(-1, 0, 0), BEYOND);
    due("child(6, 0, 0)", x.child(6, 0, 0), BEYOND);
    due("child(0, -1, 0)", x.child(0, -1, 0), BEYOND);
    due("child(0, 6, 0)", x.child(0, 6, 0), BEYOND);
    due("child(0, 0, -1)", x.child(0, 0, -1), BEYOND);
    due("child(0, 0, 100)", x.child(0, 0, 100), BEYOND);
    for (int far : FAR) {
      due("child(far, 0, 0)", x.child(far, 0, 0), BEYOND);
      due("child(0, far, 0)", x.child(0, far, 0), BEYOND);
      due("child(0, 0, far)", x.child(0, 0, far), BEYOND);
    }
    for (int c = 2; c < 14; c++) {
      due("child(1, 1, 1)", x.child(1, 1, 1), c);
    }
    due("a 15th", x.child(1, 1, 1), FULL);
    due("a 15th that is wrong too", x.child(6, 1, 1), BEYOND);
    x.dies(0);
    due("a dead one makes no room", x.child(1, 1, 1), FULL);
    due("count(0)", x.count(0), 14);
  }

  private static void p5() {
    HostageKings x = fresh();
    int[] losses = {31, 62, 15, 82, 10, 62};
    for (int kind = 0; kind < 6; kind++) {
      int c = abroad(x, kind, kind, (kind + 1) % 6, 31);
      due("kind", x.of(c, 0), kind);
      due("father", x.of(c, 1), kind);
      due("holder", x.of(c, 2), (kind + 1) % 6);
      due("worth", x.of(c, 3), 31);
      due("dead", x.of(c, 4), 0);
      due("loss of kind " + kind, x.of(c, 5), losses[kind]);
    }
    x.worth(4, 9);
    due("loss of LOST is 0 at least", x.of(4, 5), 0);
    x.worth(4, 11);
    due("half of 11, less 5", x.of(4, 5), 0);
    x.worth(4, 12);
    due("half of 12, less 5", x.of(4, 5), 1);
    x.worth(3, 0);
    due("ELDEST of no worth", x.of(3, 5), 20);
    due("of(0, 6)", x.of(0, 6), BEYOND);
    due("of(0, -1)", x.of(0, -1), BEYOND);
    due("of(-1, 0)", x.of(-1, 0), BEYOND);
    due("of(6, 0)", x.of(6, 0), BEYOND);
    for (int far : FAR) {
      due("of(far, 0)", x.of(far, 0), BEYOND);
      due("of(0, far)", x.of(0, far), BEYOND);
    }
    x.dies(3);
    due("dead", x.of(3, 4), 1);
    due("loss of a dead one", x.of(3, 5), 0);
    due("holder of a dead one", x.of(3, 2), 4);
    lossOfTwins();
  }

  private static void lossOfTwins() {
    HostageKings x = fresh();
    int one = x.child(5, 0, 21);
    due("alone at home", x.of(one, 5), 42);
    int two = x.child(5, 0, 30);
    due("another one at home", x.of(one, 5), 21);
    due("another one at home", x.of(two, 5), 30);
    x.move(two, 3);
    due("the other one abroad", x.of(one, 5), 42);
    due("abroad, another one at home", x.of(two, 5), 30);
    x.move(one, 3);
    due("both abroad", x.of(one, 5), 42);
    due("both abroad", x.of(two, 5), 60);
    x.move(one, 0);
    x.turn(one, 1);
    due("an HEIR at home is no TWIN", x.of(two, 5), 60);
    x.turn(one, 5);
    due("a TWIN again", x.of(two, 5), 30);
    int third = x.child(5, 1, 9);
    due("a TWIN of another father", x.of(third, 5), 18);
    x.move(third, 0);
    x.dies(one);
    due("the one at home is dead", x.of(two, 5), 60);
  }

  private static void p6() {
    HostageKings x = fresh();
    x.child(0, 2, 10);
    due("move(0, 5)", x.move(0, 5), 2);
    due("move(0, 5) again", x.move(0, 5), 5);
    due("move(0, 0)", x.move(0, 0), 5);
    due("of(0, 2)", x.of(0, 2), 0);
    due("move(1, 0)", x.move(1, 0), BEYOND);
    due("move(-1, 0)", x.move(-1, 0), BEYOND);
    due("move(0, 6)", x.move(0, 6), BEYOND);
    due("move(0, -1)", x.move(0, -1), BEYOND);
    for (int far : FAR) {
      due("move(far, 0)", x.move(far, 0), BEYOND);
      due("move(0, far)", x.move(0, far), BEYOND);
    }
    x.dies(0);
    due("a dead one", x.move(0, 1), STATE);
    due("a dead one, nowhere", x.move(0, 6), BEYOND);
    due("where it was", x.of(0, 2), 0);
  }

  private static void p7() {
    HostageKings x = fresh();
    x.child(0, 2, 10);
    due("worth(0, 99)", x.worth(0, 99), 10);
    due("worth(0, 0)", x.worth(0, 0), 99);
    due("worth(0, 3)", x.worth(0, 3), 0);
    due("worth(0, 100)", x.worth(0, 100), BEYOND);
    due("worth(0, -1)", x.worth(0, -1), BEYOND);
    due("worth(1, 1)", x.worth(1, 1), BEYOND);
    due("worth(-1, 1)", x.worth(-1, 1), BEYOND);
    for (int far : FAR) {
      due("worth(far, 0)", x.worth(far, 0), BEYOND);
      due("worth(0, far)", x.worth(0, far), BEYOND);
    }
    due("of(0, 3)", x.of(0, 3), 3);
    x.dies(0);
    due("a dead one's", x.worth(0, 4), 3);
    due("of(0, 3)", x.of(0, 3), 4);
  }

  private static void p8() {
    HostageKings x = fresh();
    x.child(2, 2, 10);
    due("turn(0, 5)", x.turn(0, 5), 2);
    due("turn(0, 0)", x.turn(0, 0), 5);
    due("turn(0, 3)", x.turn(0, 3), 0);
    due("of(0, 0)", x.of(0, 0), 3);
    due("turn to the same", x.turn(0, 3), 3);
    due("turn(0, 6)", x.turn(0, 6), BEYOND);
    due("turn(0, -1)", x.turn(0, -1), BEYOND);
    due("turn(1, 0)", x.turn(1, 0), BEYOND);
    due("turn(-1, 0)", x.turn(-1, 0), BEYOND);
    for (int far : FAR) {
      due("turn(far, 0)", x.turn(far, 0), BEYOND);
      due("turn(0, far)", x.turn(0, far), BEYOND);
    }
    x.dies(0);
    due("a dead one", x.turn(0, 1), 3);
    due("of(0, 0)", x.of(0, 0), 1);
  }

  private static void p9() {
    HostageKings x = fresh();
    // by kind, the set of kinds that it may pass for
    int[] passes = {0b000001, 0b000011, 0b000101, 0b001011, 0b010101, 0b100011};
    for (int kind = 0; kind < 6; kind++) {
      abroad(x, kind, 0, kind, 10);
      for (int as = 0; as < 6; as++) {
        int want = (passes[kind] >> as & 1) != 0 ? kind : KIND;
        due("as(" + kind + ", " + as + ")", x.as(kind, as), want);
      }
    }
    due("as(0, 6)", x.as(0, 6), BEYOND);
    due("as(0, -1)", x.as(0, -1), BEYOND);
    due("as(6, 0)", x.as(6, 0), BEYOND);
    due("as(-1, 0)", x.as(-1, 0), BEYOND);
    for (int far : FAR) {
      due("as(far, 0)", x.as(far, 0), BEYOND);
      due("as(0, far)", x.as(0, far), BEYOND);
    }
    x.dies(3);
    due("a dead one", x.as(3, 1), 3);
  }

  private static void p10() {
    HostageKings x = fresh();
    abroad(x, 0, 0, 1, 10);
    abroad(x, 0, 0, 1, 5);
    x.treaty(0, 1, 12, 999);
    x.treaty(0, 1, 5, 999);
    x.treaty(0, 1, 20, 999);
    x.treaty(0, 1, 15, 999);
    x.treaty(0, 2, 0, 999);
    due("loose()", x.loose(), 0b00100);
    due("dies(0): 12 and 15 are loose then, 20 was", x.dies(0), 2);
    due("loose()", x.loose(), 0b01101);
    due("again", x.dies(0), STATE);
    due("dies(2)", x.dies(2), BEYOND);
    due("dies(-1)", x.dies(-1), BEYOND);
    for (int far : FAR) {
      due("dies(far)", x.dies(far), BEYOND);
    }
    due("dies(1)", x.dies(1), 1);
    due("now(3)", x.now(3), 0);
    // the death of a TWIN at home makes his brother worth more: a word holds that was loose
    HostageKings y = fresh();
    y.child(5, 0, 20);
    abroad(y, 5, 0, 1, 20);
    y.treaty(0, 1, 30, 999);
    due("loose()", y.loose(), 1);
    due("dies(0)", y.dies(0), 0);
    due("loose()", y.loose(), 0);
  }

  private static void p11() {
    HostageKings x = fresh();
    abroad(x, 0, 0, 3, 10);
    abroad(x, 0, 1, 4, 10);
    x.child(0, 2, 10);
    due("swap(0, 1)", x.swap(0, 1), 1);
    due("of(0, 2)", x.of(0, 2), 4);
    due("of(1, 2)", x.of(1, 2), 3);
    due("swap(2, 0)", x.swap(2, 0), 1);
    due("of(0, 2)", x.of(0, 2), 2);
    due("of(2, 2)", x.of(2, 2), 4);
    due("swap(1, 1)", x.swap(1, 1), BEYOND);
    due("swap(0, 3)", x.swap(0, 3), BEYOND);
    due("swap(3, 0)", x.swap(3, 0), BEYOND);
    due("swap(-1, 0)", x.swap(-1, 0), BEYOND);
    due("swap(0, -1)", x.swap(0, -1), BEYOND);
    for (int far : FAR) {
      due("swap(far, 0)", x.swap(far, 0), BEYOND);
      due("swap(0, far)", x.swap(0, far), BEYOND);
    }
    x.dies(1);
    due("swap(0, 1)", x.swap(0, 1), STATE);
    due("swap(1, 0)", x.swap(1, 0), STATE);
    due("swap(1, 1)", x.swap(1, 1), BEYOND);
    due("of(0, 2)", x.of(0, 2), 2);
    due("of(1, 2)", x.of(1, 2), 3);
  }

  private static void p12() {
    HostageKings x = fresh();
    due("treaty(0, 5, 0, 0)", x.treaty(0, 5, 0, 0), 0);
    due("treaty(5, 0, 999, 999)", x.treaty(5, 0, 999, 999), 1);
    due("treaty(3, 3, 1, 1)", x.treaty(3, 3, 1, 1), BEYOND);
    due("treaty(-1, 0, 1, 1)", x.treaty(-1, 0, 1, 1), BEYOND);
    due("treaty(6, 0, 1, 1)", x.treaty(6, 0, 1, 1), BEYOND);
    due("treaty(0, -1, 1, 1)", x.treaty(0, -1, 1, 1), BEYOND);
    due("treaty(0, 6, 1, 1)", x.treaty(0, 6, 1, 1), BEYOND);
    due("treaty(0, 1, -1, 1)", x.treaty(0, 1, -1, 1), BEYOND);
    due("treaty(0, 1, 1000, 1)", x.treaty(0, 1, 1000, 1), BEYOND);
    due("treaty(0, 1, 1, -1)", x.treaty(0, 1, 1, -1), BEYOND);
    due("treaty(0, 1, 1, 1000)", x.treaty(0, 1, 1, 1000), BEYOND);
    for (int far : FAR) {
      due("treaty(far, 1, 1, 1)", x.treaty(far, 1, 1, 1), BEYOND);
      due("treaty(0, far, 1, 1)", x.treaty(0, far, 1, 1), BEYOND);
      due("treaty(0, 1, far, 1)", x.treaty(0, 1, far, 1), BEYOND);
      due("treaty(0, 1, 1, far)", x.treaty(0, 1, 1, far), BEYOND);
    }
    for (int t = 2; t < 12; t++) {
      due("treaty(1, 2, 3, 4)", x.treaty(1, 2, 3, 4), t);
    }
    due("a 13th", x.treaty(1, 2, 3, 4), FULL);
    due("a 13th that is wrong too", x.treaty(1, 1, 3, 4), BEYOND);
    due("count(1)", x.count(1), 12);
  }

  private static void p13() {
    HostageKings x = fresh();
    x.treaty(4, 2, 50, 1);
    x.treaty(2, 4, 0, 0);
    x.fear(4, 49);
    int[] loose = {4, 2, 50, 1, 0, 1, 1};
    int[] tight = {4, 2, 50, 1, 0, 1, 0};
    int[] over = {4, 2, 60, 1, 0, 0, 0};
    int[] broken = {4, 2, 50, 1, 1, 0, 0};
    dueTreaty(x, 0, loose);
    x.fear(4, 50);
    dueTreaty(x, 0, tight);
    x.image();
    x.months(1);
    dueTreaty(x, 0, tight);
    due("over", x.treatyOf(1, 5), 0);
    x.months(1);
    x.gain(0, 60);
    dueTreaty(x, 0, over);
    x.undo();
    x.fear(4, 0);
    x.fall();
    dueTreaty(x, 0, broken);
    due("treatyOf(2, 0)", x.treatyOf(2, 0), BEYOND);
    due("treatyOf(-1, 0)", x.treatyOf(-1, 0), BEYOND);
    due("treatyOf(0, 7)", x.treatyOf(0, 7), BEYOND);
    due("treatyOf(0, -1)", x.treatyOf(0, -1), BEYOND);
    for (int far : FAR) {
      due("treatyOf(far, 0)", x.treatyOf(far, 0), BEYOND);
      due("treatyOf(0, far)", x.treatyOf(0, far), BEYOND);
    }
  }

  private static void dueTreaty(HostageKings x, int treaty, int[] want) {
    for (int what = 0; what < want.length; what++) {
      due("treatyOf(" + treaty + ", " + what + ")", x.treatyOf(treaty, what), want[what]);
    }
  }

  private static void p14() {
    HostageKings x = fresh();
    x.treaty(0, 1, 5, 999);
    due("gain(0, 0)", x.gain(0, 0), 5);
    due("loose()", x.loose(), 0);
    due("gain(0, 999)", x.gain(0, 999), 0);
    due("loose()", x.loose(), 1);
    due("gain(0, 1000)", x.gain(0, 1000), BEYOND);
    due("gain(0, -1)", x.gain(0, -1), BEYOND);
    due("gain(1, 1)", x.gain(1, 1), BEYOND);
    due("gain(-1, 1)", x.gain(-1, 1), BEYOND);
    for (int far : FAR) {
      due("gain(far, 0)", x.gain(far, 0), BEYOND);
      due("gain(0, far)", x.gain(0, far), BEYOND);
    }
    x.fall();
    due("of a broken one", x.gain(0, 7), 999);
    due("treatyOf(0, 2)", x.treatyOf(0, 2), 7);
  }

  private static void p15() {
    HostageKings x = fresh();
    abroad(x, 0, 0, 1, 10);
    abroad(x, 3, 0, 1, 10);
    abroad(x, 0, 0, 2, 50);
    abroad(x, 0, 1, 0, 7);
    x.child(0, 0, 99);
    x.fear(0, 44);
    due("pledge(1, 0)", x.pledge(1, 0), 50);
    due("pledge(2, 0)", x.pledge(2, 0), 50);
    due("pledge(0, 1)", x.pledge(0, 1), 7);
    due("pledge(3, 0)", x.pledge(3, 0), 0);
    x.dies(0);
    due("less a dead one", x.pledge(1, 0), 40);
    due("pledge(0, 0)", x.pledge(0, 0), BEYOND);
    due("pledge(6, 0)", x.pledge(6, 0), BEYOND);
    due("pledge(0, 6)", x.pledge(0, 6), BEYOND);
    due("pledge(-1, 0)", x.pledge(-1, 0), BEYOND);
    due("pledge(0, -1)", x.pledge(0, -1), BEYOND);
    for (int far : FAR) {
      due("pledge(far, 0)", x.pledge(far, 0), BEYOND);
      due("pledge(0, far)", x.pledge(0, far), BEYOND);
    }
  }

  private static void p16() {
    HostageKings x = fresh();
    abroad(x, 0, 0, 1, 10);
    x.fear(0, 5);
    x.fear(1, 99);
    x.treaty(0, 1, 14, 999);
    x.treaty(0, 1, 15, 999);
    x.treaty(0, 1, 16, 999);
    x.treaty(0, 2, 16, 0);
    due("ease(0)", x.ease(0), 1);
    due("ease(1)", x.ease(1), 0);
    due("ease(2)", x.ease(2), -1);
    due("ease(3)", x.ease(3), -11);
    due("ease(4)", x.ease(4), BEYOND);
    due("ease(-1)", x.ease(-1), BEYOND);
    for (int far : FAR) {
      due("ease(far)", x.ease(far), BEYOND);
    }
    x.gain(3, 0);
    x.months(1);
    due("broken", x.ease(2), STATE);
    due("over", x.ease(3), STATE);
  }

  private static void p17() {
    HostageKings x = fresh();
    for (int t = 0; t < 12; t++) {
      x.treaty(t % 6, (t + 1) % 6, t % 2, t < 6 ? 0 : 999);
    }
    due("loose()", x.loose(), 0b101010101010);
    x.fear(1, 1);
    due("a king's fear holds both his words", x.loose(), 0b101000101000);
    abroad(x, 0, 3, 4, 1);
    due("a child with the right holder", x.loose(), 0b100000100000);
    abroad(x, 0, 5, 1, 99);
    due("a child with another one", x.loose(), 0b100000100000);
    x.move(1, 0);
    due("all hold", x.loose(), 0);
    x.months(1);
    x.move(1, 5);
    due("of those in force", x.loose(), 0b100000000000);
    x.fall();
    due("none of the broken", x.loose(), 0);
  }

  private static void p18() {
    HostageKings x = fresh();
    x.treaty(0, 2, 20, 999);
    x.treaty(1, 3, 15, 999);
    x.treaty(0, 1, 500, 999);
    x.treaty(2, 0, 500, 999);
    x.fear(0, 2);
    x.fear(1, 3);
    abroad(x, 0, 0, 4, 20);
    abroad(x, 0, 1, 0, 90);
    abroad(x, 0, 1, 2, 10);
    due("35 is not more than 35", x.pact(0, 1), 0);
    x.gain(0, 21);
    due("36 is more than 35", x.pact(0, 1), 1);
    due("either way", x.pact(1, 0), 1);
    x.child(0, 0, 99);
    due("one at home counts not", x.pact(0, 1), 1);
    x.move(1, 5);
    due("one with a third king counts", x.pact(0, 1), 0);
    x.dies(1);
    due("a dead one counts not", x.pact(0, 1), 1);
    due("words between the two count not", x.pact(0, 2), 1);
    x.gain(2, 0);
    due("words between the two count not", x.pact(0, 2), 0);
    due("of none", x.pact(4, 5), 0);
    due("pact(2, 2)", x.pact(2, 2), BEYOND);
    due("pact(6, 2)", x.pact(6, 2), BEYOND);
    due("pact(2, 6)", x.pact(2, 6), BEYOND);
    due("pact(-1, 2)", x.pact(-1, 2), BEYOND);
    due("pact(2, -1)", x.pact(2, -1), BEYOND);
    for (int far : FAR) {
      due("pact(far, 0)", x.pact(far, 0), BEYOND);
      due("pact(0, far)", x.pact(0, far), BEYOND);
    }
    x.fear(0, 99);
    x.fear(1, 99);
    x.gain(0, 999);
    due("while in force", x.pact(0, 1), 1);
    x.fall();
    due("once broken", x.pact(0, 1), 0);
  }

  private static void p19() {
    HostageKings x = fresh();
    due("plot()", x.plot(), NONE);
    x.treaty(4, 5, 10, 999);
    due("the first king who isn't in it may be in the pact", x.plot(), 4);
    x.fear(0, 10);
    due("plot()", x.plot(), 14);
    x.fear(1, 10);
    x.fear(2, 10);
    due("plot()", x.plot(), 34);
    x.fear(3, 10);
    due("none with the one that has the word", x.plot(), NONE);
    x.treaty(5, 4, 10, 999);
    due("a word of the other one is between them", x.plot(), NONE);
    x.treaty(5, 3, 1, 999);
    due("plot()", x.plot(), 5);
  }

  /**
   * King 0's words to 1: 0 is loose, 1 hangs on the children with 1, 2 hangs on fear alone; his
   * word 3 to 2 hangs on a child with 2; word 4 of 1 to 0 on a child with 0; word 5 of 3 is loose.
   */
  private static HostageKings shaky() {
    HostageKings x = fresh();
    x.fear(0, 3);
    abroad(x, 0, 0, 1, 10);
    abroad(x, 1, 0, 1, 20);
    abroad(x, 0, 0, 2, 30);
    abroad(x, 0, 1, 0, 40);
    x.child(0, 0, 50);
    x.treaty(0, 1, 54, 999);
    x.treaty(0, 1, 53, 999);
    x.treaty(0, 1, 3, 999);
    x.treaty(0, 2, 33, 999);
    x.treaty(1, 0, 40, 999);
    x.treaty(3, 4, 1, 999);
    return x;
  }

  private static void p20() {
    HostageKings x = fresh();
    due("of nothing", x.fall(), 0);
    x = shaky();
    due("loose()", x.loose(), 0b100001);
    due("fall()", x.fall(), 2);
    due("broken", brokenSet(x), 0b100011);
    due("children of 0 not dead", x.kingOf(0, 1), 0b10100);
    due("children of 1 not dead", x.kingOf(1, 1), 0b01000);
    due("no month goes", x.now(0), 0);
    due("again", x.fall(), 0);
    x = shaky();
    x.gain(0, 53);
    due("one round, no death", x.fall(), 1);
    due("broken", brokenSet(x), 0b100000);
    due("none dead", x.now(3), 5);
    x = shaky();
    x.gain(1, 54);
    due("two loose ones at once", x.fall(), 1);
    due("broken", brokenSet(x), 0b100011);
    due("two dead", x.now(3), 3);
  }

  private static int brokenSet(HostageKings x) {
    int set = 0;
    for (int t = 0; t < x.count(1); t++) {
      set |= x.treatyOf(t, 4) << t;
    }
    return set;
  }

  private static void p21() {
    HostageKings x = shaky();
    due("wouldFall(0)", x.wouldFall(0), 2);
    due("wouldFall(1)", x.wouldFall(1), 0b100011);
    due("wouldFall(2)", x.wouldFall(2), 0b00011);
    due("wouldFall(3)", x.wouldFall(3), 0b100001);
    due("wouldFall(4)", x.wouldFall(4), BEYOND);
    due("wouldFall(-1)", x.wouldFall(-1), BEYOND);
    for (int far : FAR) {
      due("wouldFall(far)", x.wouldFall(far), BEYOND);
    }
    due("which isn't made", x.now(2), 0);
    due("which isn't made", x.now(3), 5);
    x.dies(0);
    due("by it, not dead already", x.wouldFall(2), 0b00010);
    x.fall();
    for (int what = 0; what < 4; what++) {
      due("by it, not broken already", x.wouldFall(what), 0);
    }
  }

  private static void p22() {
    HostageKings x = shaky();
    x.treaty(5, 0, 0, 0);
    due("pulls(0)", x.pulls(0), 0b100011);
    due("pulls(2) kills the children that 1 hangs on", x.pulls(2), 0b100111);
    due("pulls(3)", x.pulls(3), 0b101011);
    due("pulls(4)", x.pulls(4), 0b110011);
    x.gain(0, 53);
    x.gain(5, 0);
    due("pulls(0)", x.pulls(0), 0b000011);
    due("pulls(2)", x.pulls(2), 0b000111);
    due("pulls(3)", x.pulls(3), 0b001000);
    due("pulls(5)", x.pulls(5), 0b100000);
    due("pulls(6)", x.pulls(6), 0b1000000);
    due("which isn't made", x.now(2), 0);
    due("which isn't made", x.now(3), 5);
    due("pulls(7)", x.pulls(7), BEYOND);
    due("pulls(-1)", x.pulls(-1), BEYOND);
    for (int far : FAR) {
      due("pulls(far)", x.pulls(far), BEYOND);
    }
    x.gain(5, 1);
    x.months(1);
    due("a broken one", x.pulls(5), STATE);
    due("one that is over", x.pulls(6), STATE);
  }

  private static void p23() {
    HostageKings x = shaky();
    due("word 2 brings 0, 1 and 5 down, as do 3 and 4", x.keystone(), 2);
    x.gain(0, 53);
    x.gain(5, 0);
    due("word 2 brings 0 and 1 down", x.keystone(), 2);
    x.gain(2, 4);
    due("of several the least", x.keystone(), 0);
    HostageKings y = fresh();
    due("keystone()", y.keystone(), NONE);
    y.treaty(0, 1, 0, 0);
    y.treaty(1, 2, 0, 5);
    y.treaty(2, 3, 0, 5);
    due("of none that brings any down", y.keystone(), 0);
    y.months(1);
    due("of those in force", y.keystone(), 1);
    y.months(5);
    due("none in force", y.keystone(), NONE);
  }

  private static void p24() {
    HostageKings x = shaky();
    due("months(0)", x.months(0), BEYOND);
    due("months(-1)", x.months(-1), BEYOND);
    due("months(61)", x.months(61), BEYOND);
    for (int far : FAR) {
      due("months(far)", x.months(far), BEYOND);
    }
    due("nothing goes", x.now(0), 0);
    due("months(1)", x.months(1), 3);
    due("now(0)", x.now(0), 1);
    due("now(2)", x.now(2), 3);
    due("now(3)", x.now(3), 3);
    due("those broken before are not counted", x.months(58), 0);
    x.fear(0, 0);
    x.treaty(5, 4, 9, 58);
    x.treaty(5, 4, 9, 59);
    due("one in force till this month falls, one over doesn't", x.months(60), 3);
    for (int i = 0; i < 14; i++) {
      due("months(60)", x.months(60), 0);
    }
    due("now(0)", x.now(0), 959);
    due("months(41)", x.months(41), STATE);
    due("months(61)", x.months(61), BEYOND);
    due("months(40)", x.months(40), 0);
    due("months(1)", x.months(1), STATE);
    due("now(0)", x.now(0), 999);
    x.treaty(5, 4, 9, 999);
    due("in force in month 999", x.loose(), 0b100000000);
  }

  private static void p25() {
    HostageKings x = shaky();
    x.treaty(5, 4, 0, 0);
    due("now(0)", x.now(0), 0);
    due("now(1)", x.now(1), 7);
    due("now(2)", x.now(2), 0);
    due("now(3)", x.now(3), 5);
    due("now(4)", x.now(4), 1);
    x.child(0, 3, 1);
    x.child(0, 3, 1);
    x.dies(6);
    x.months(2);
    due("now(0)", x.now(0), 2);
    due("now(1)", x.now(1), 3);
    due("now(2)", x.now(2), 3);
    due("now(3)", x.now(3), 4);
    due("now(4)", x.now(4), 2);
    due("now(5)", x.now(5), BEYOND);
    due("now(-1)", x.now(-1), BEYOND);
    for (int far : FAR) {
      due("now(far)", x.now(far), BEYOND);
    }
  }

  private static void p26() {
    HostageKings x = shaky();
    x.treaty(5, 4, 0, 0);
    x.treaty(5, 4, 0, 1);
    x.treaty(5, 4, 0, 119);
    due("no month, no fall", x.on(0), 0b111111111);
    due("on(1)", x.on(1), 0b110011100);
    due("on(2)", x.on(2), 0b100011100);
    due("on(119)", x.on(119), 0b100011100);
    due("on(120)", x.on(120), 0b000011100);
    due("nothing changes", x.on(0), 0b111111111);
    due("nothing changes", x.now(0), 0);
    due("nothing changes", x.now(3), 5);
    due("on(121)", x.on(121), BEYOND);
    due("on(-1)", x.on(-1), BEYOND);
    for (int far : FAR) {
      due("on(far)", x.on(far), BEYOND);
    }
    for (int i = 0; i < 15; i++) {
      x.months(60);
    }
    due("on(99)", x.on(99), 0b000011100);
    due("on(100)", x.on(100), STATE);
    due("on(121)", x.on(121), BEYOND);
  }

  private static void p27() {
    HostageKings x = fresh();
    due("none loose", x.moves(0), 0);
    due("none to tell", x.moves(1), NONE);
    due("none to tell", x.moves(2), NONE);
    x.treaty(1, 2, 10, 999);
    due("no child", x.moves(0), NONE);
    x.child(0, 0, 99);
    due("no child of his", x.moves(0), NONE);
    x.child(0, 1, 10);
    x.child(0, 1, 10);
    dueMoves(x, 1, 8, NONE);
    x.dies(1);
    dueMoves(x, 1, 14, NONE);
    x.worth(2, 9);
    dueMoves(x, NONE, NONE, NONE);
    due("moves(3)", x.moves(3), BEYOND);
    due("moves(-1)", x.moves(-1), BEYOND);
    for (int far : FAR) {
      due("moves(far)", x.moves(far), BEYOND);
    }
    due("nothing is moved", x.of(2, 2), 1);
    movesOfTwo();
    movesOfTwins();
    movesToTheFirstKing();
    movesPutBack();
  }

  private static void dueMoves(HostageKings x, int many, int first, int second) {
    due("moves(0)", x.moves(0), many);
    due("moves(1)", x.moves(1), first);
    due("moves(2)", x.moves(2), second);
  }

  private static void movesOfTwo() {
    HostageKings x = fresh();
    x.treaty(1, 2, 20, 999);
    x.child(0, 1, 10);
    x.child(0, 1, 9);
    x.child(0, 1, 11);
    x.child(0, 1, 11);
    dueMoves(x, 2, 6 * 0 + 2, 6 * 2 + 2);
    x.worth(0, 8);
    dueMoves(x, 2, 6 * 1 + 2, 6 * 2 + 2);
    x.treaty(1, 3, 1, 999);
    due("a third move is too many", x.moves(0), NONE);
    x.fear(1, 9);
    dueMoves(x, 1, 6 * 2 + 2, NONE);
    x.gain(1, 10);
    dueMoves(x, 2, 6 * 0 + 3, 6 * 2 + 2);
    // a word of another king: a child of his has to move, too
    x.fear(1, 0);
    x.gain(0, 11);
    x.gain(1, 0);
    x.treaty(0, 5, 4, 999);
    x.child(0, 0, 4);
    dueMoves(x, 2, 6 * 2 + 2, 6 * 4 + 5);
    x.treaty(4, 5, 4, 999);
    due("a third king's word", x.moves(0), NONE);
  }

  /** Of two TWINS, one stays worth half while the other one is at home. */
  private static void movesOfTwins() {
    HostageKings x = fresh();
    x.child(5, 0, 10);
    x.child(5, 0, 10);
    x.treaty(0, 1, 20, 999);
    dueMoves(x, 2, 0 * 6 + 1, 1 * 6 + 1);
    x.gain(0, 10);
    dueMoves(x, 1, 0 * 6 + 1, NONE);
    x.move(0, 1);
    x.gain(0, 20);
    dueMoves(x, 1, 1 * 6 + 1, NONE);
    x.gain(0, 41);
    due("moves(0)", x.moves(0), NONE);
    x.gain(0, 20);
    x.treaty(0, 2, 0, 999);
    x.child(0, 0, 99);
    dueMoves(x, 1, 1 * 6 + 1, NONE);
  }

  private static void movesToTheFirstKing() {
    HostageKings x = fresh();
    x.treaty(3, 0, 10, 999);
    x.child(0, 3, 10);
    dueMoves(x, 1, 0, NONE);
    x.treaty(4, 0, 10, 999);
    due("each has his own", x.moves(0), NONE);
    x.child(0, 4, 10);
    dueMoves(x, 2, 0, 6);
    x.fear(3, 10);
    dueMoves(x, 1, 6, NONE);
    x.fear(4, 10);
    dueMoves(x, 0, NONE, NONE);
  }

  /** One child holds a word where it is: only plans that leave it there are good. */
  private static void movesPutBack() {
    for (int stays = 0; stays < 3; stays++) {
      HostageKings x = fresh();
      for (int c = 0; c < 3; c++) {
        x.child(0, 0, c == stays ? 30 : 10);
      }
      x.move(stays, 1);
      x.treaty(0, 1, 30, 999);
      x.treaty(0, 2, 10, 999);
      int lesser = stays == 0 ? 1 : 0;
      int greater = stays == 2 ? 1 : 2;
      dueMoves(x, 1, 6 * lesser + 2, NONE);
      x.treaty(0, 3, 10, 999);
      dueMoves(x, 2, 6 * lesser + 2, 6 * greater + 3);
      due("nobody is moved", x.loose(), 0b110);
    }
  }

  private static void p28() {
    HostageKings x = fresh();
    x.child(0, 0, 10);
    due("of several the least", x.best(0), 0);
    x.treaty(0, 3, 5, 999);
    x.treaty(0, 4, 10, 999);
    due("best(0)", x.best(0), 3);
    x.treaty(0, 4, 7, 999);
    due("best(0)", x.best(0), 4);
    due("it isn't moved", x.of(0, 2), 0);
    x.gain(0, 11);
    x.gain(1, 11);
    x.gain(2, 11);
    x.move(0, 5);
    due("where it helps nowhere", x.best(0), 0);
    x.gain(2, 10);
    x.move(0, 4);
    due("its holder now, too", x.best(0), 4);
    HostageKings y = fresh();
    y.child(0, 0, 10);
    for (int t = 0; t < 12; t++) {
      y.treaty(0, t == 5 ? 3 : 4, t == 5 ? 10 : 11, 999);
    }
    due("eleven loose are fewer than twelve", y.best(0), 3);
    due("best(1)", x.best(1), BEYOND);
    due("best(-1)", x.best(-1), BEYOND);
    for (int far : FAR) {
      due("best(far)", x.best(far), BEYOND);
    }
    x.dies(0);
    due("a dead one", x.best(0), STATE);
  }

  private static void p29() {
    HostageKings x = fresh();
    due("no child", x.key(0), NONE);
    x.child(0, 0, 50);
    abroad(x, 0, 0, 1, 10);
    abroad(x, 0, 0, 1, 10);
    abroad(x, 0, 0, 2, 30);
    abroad(x, 0, 1, 0, 30);
    x.treaty(0, 1, 10, 999);
    due("one of the two is enough", x.key(0), NONE);
    x.treaty(0, 2, 30, 999);
    due("key(0)", x.key(0), 3);
    x.gain(0, 11);
    due("of several the least", x.key(0), 1);
    x.treaty(0, 2, 1, 999);
    due("most", x.key(0), 3);
    x.gain(0, 21);
    x.treaty(1, 2, 1, 999);
    x.treaty(0, 1, 11, 999);
    due("most", x.key(0), 3);
    x.treaty(0, 1, 12, 999);
    x.treaty(0, 1, 13, 999);
    due("most: those loose now are left out", x.key(0), 1);
    x.dies(1);
    due("a dead one is left out", x.key(0), 3);
    x.dies(3);
    due("none makes any", x.key(0), NONE);
    due("nobody comes home", x.of(2, 2), 1);
    due("key(1)", x.key(1), NONE);
    x.treaty(1, 0, 30, 999);
    due("key(1)", x.key(1), 4);
    due("key(6)", x.key(6), BEYOND);
    due("key(-1)", x.key(-1), BEYOND);
    for (int far : FAR) {
      due("key(far)", x.key(far), BEYOND);
    }
    HostageKings z = fresh();
    abroad(z, 0, 1, 2, 10);
    z.treaty(1, 2, 10, 999);
    due("another king's child", z.key(0), NONE);
    due("his own", z.key(1), 0);
    // a TWIN who comes home makes his brother abroad worth half
    HostageKings y = fresh();
    abroad(y, 5, 4, 0, 10);
    abroad(y, 5, 4, 5, 10);
    y.treaty(4, 5, 11, 999);
    due("key(4)", y.key(4), 0);
  }

  private static void p30() {
    HostageKings x = fresh();
    abroad(x, 0, 0, 1, 10);
    abroad(x, 0, 0, 2, 10);
    abroad(x, 0, 1, 0, 10);
    abroad(x, 0, 0, 1, 10);
    abroad(x, 0, 0, 1, 10);
    x.dies(4);
    due("no word", x.toFree(0, 1), 0);
    x.treaty(0, 1, 5, 0);
    due("toFree(0, 1)", x.toFree(0, 1), 0b01001);
    due("toFree(1, 0)", x.toFree(1, 0), 0);
    due("toFree(0, 2)", x.toFree(0, 2), 0);
    x.treaty(0, 1, 5, 2);
    x.months(1);
    due("some word is in force", x.toFree(0, 1), 0b01001);
    x.months(2);
    due("none is in force", x.toFree(0, 1), 0);
    x.treaty(1, 0, 50, 999);
    due("toFree(1, 0)", x.toFree(1, 0), 0b00100);
    x.fall();
    due("it is broken", x.toFree(1, 0), 0);
    due("toFree(1, 1)", x.toFree(1, 1), BEYOND);
    due("toFree(6, 1)", x.toFree(6, 1), BEYOND);
    due("toFree(1, 6)", x.toFree(1, 6), BEYOND);
    due("toFree(-1, 1)", x.toFree(-1, 1), BEYOND);
    due("toFree(1, -1)", x.toFree(1, -1), BEYOND);
    for (int far : FAR) {
      due("toFree(far, 0)", x.toFree(far, 0), BEYOND);
      due("toFree(0, far)", x.toFree(0, far), BEYOND);
    }
  }

  private static void p31() {
    HostageKings x = fresh();
    abroad(x, 0, 0, 1, 10);
    x.child(0, 0, 10);
    x.child(0, 2, 10);
    x.treaty(0, 1, 10, 999);
    due("missing", x.way(0, -1), MISSING);
    due("missing, what is beyond", x.way(0, 8), MISSING);
    due("no sheet", x.way(4, -1), BEYOND);
    due("no sheet", x.way(-1, -1), BEYOND);
    laySheet(x, 0, 0, 1, 4);
    dueWay(x, 0, 1, 0, 2);
    due("way(0, 7)", x.way(0, 7), NONE);
    due("way(0, 8)", x.way(0, 8), BEYOND);
    due("way(0, -2)", x.way(0, -2), BEYOND);
    for (int far : FAR) {
      due("way(far, -1)", x.way(far, -1), BEYOND);
      due("way(0, far)", x.way(0, far), BEYOND);
    }
    due("nobody is moved", x.of(0, 2), 1);
    x.write(0, 1, 0);
    due("the word would be loose", x.way(0, -1), NONE);
    due("the word would be loose", x.way(0, 0), NONE);
    laySheet(x, 0, 1, 0, 2);
    dueWay(x, 0);
    x.gain(0, 11);
    dueWay(x, 0);
    laySheet(x, 0, 1, 0, 4);
    due("loose behind the move", x.way(0, -1), NONE);
    laySheet(x, 0, -1, 1, 6, 3, 0);
    dueWay(x, 0, 1);
    laySheet(x, 0);
    dueWay(x, 0);
    x.sheet(1, 64, 2);
    x.write(1, 0, 1L << 32);
    x.write(1, 1, (1L << 32) + 1);
    dueWay(x, 1);
    wayThatTurnsBack();
    wayOfMany();
  }

  private static void dueWay(HostageKings x, int s, int... children) {
    due("way(" + s + ", -1)", x.way(s, -1), children.length);
    for (int i = 0; i < children.length; i++) {
      due("way(" + s + ", " + i + ")", x.way(s, i), children[i]);
    }
    due("way has no more", x.way(s, children.length), NONE);
  }

  /** Child 0 could go first, but the rest could not follow then. */
  private static void wayThatTurnsBack() {
    HostageKings x = fresh();
    abroad(x, 0, 0, 2, 10);
    abroad(x, 0, 0, 1, 10);
    abroad(x, 0, 0, 1, 20);
    x.treaty(0, 1, 20, 999);
    x.treaty(0, 2, 10, 999);
    laySheet(x, 0, 1, 2, 1);
    due("child 0 leaves 2 with none", x.way(0, 0), 1);
    dueWay(x, 0, 1, 0);
    x.gain(1, 0);
    dueWay(x, 0, 0, 1);
    x.gain(0, 31);
    due("first none, then one too few", x.way(0, -1), NONE);
    x.gain(0, 30);
    laySheet(x, 0, 1, 3, 1);
    dueWay(x, 0, 0, 1);
    x.gain(0, 40);
    due("loose at the end", x.way(0, -1), NONE);
  }

  private static void wayOfMany() {
    HostageKings x = fresh();
    for (int c = 0; c < 10; c++) {
      x.child(0, 0, 10);
    }
    x.move(7, 1);
    x.treaty(0, 1, 10, 999);
    laySheet(x, 2, 2, 2, 2, 2, 1, 2, 2, 0);
    dueEight(x);
    laySheet(x, 2, 2, 2, 2, 2, 1, 2, 2, 0, 2);
    due("nine", x.way(2, -1), SIZE);
    due("nine, what is beyond", x.way(2, 8), BEYOND);
    x.dies(9);
    laySheet(x, 2, 2, 2, 2, 2, 1, 2, 2, 0, 2, 2);
    due("ten, one of them dead", x.way(2, -1), SIZE);
    laySheet(x, 2, 2, 2, 2, 2, 1, 2, 2, 0, 0, 0);
    dueEight(x);
    laySheet(x, 2, 2, 2, 2, 2, 1, 2, 2, 1, 0, 2);
    due("eight, one of them dead", x.way(2, -1), STATE);
    due("eight, one of them dead", x.way(2, 7), STATE);
    x.dies(0);
    laySheet(x, 2, 2, 2);
    due("two, the first one dead", x.way(2, 0), STATE);
    laySheet(x, 2, 0, 2);
    dueWay(x, 2, 1);
    x.dies(2);
    laySheet(x, 2, 0, 2, 2);
    due("two, the last one dead", x.way(2, 0), STATE);
    laySheet(x, 2, 0, 2, 0);
    dueWay(x, 2, 1);
  }

  private static void dueEight(HostageKings x) {
    due("way(2, -1)", x.way(2, -1), 8);
    for (int i = 0; i < 8; i++) {
      due("way(2, " + i + ")", x.way(2, i), i);
    }
  }

  private static void p32() {
    HostageKings x = fresh();
    due("feed(.., 4)", x.feed('k' << 24 | 'i' << 16 | 'n' << 8 | 'g', 4), 4);
    due("feed(.., 1) of the lowest", x.feed('x' << 24 | 'y' << 16 | 'z' << 8 | '0', 1), 5);
    due("feed(.., 3) of the lowest", x.feed('x' << 24 | 'f' << 16 | 'e' << 8 | 'a', 3), 8);
    due("feed(.., 2) of the lowest", x.feed('x' << 24 | 'x' << 16 | 'r' << 8 | '7', 2), 10);
    due("court()", x.court(), 1);
    due("kingOf(0, 0)", x.kingOf(0, 0), 7);
    due("feed(1, 0)", x.feed(1, 0), BEYOND);
    due("feed(1, 5)", x.feed(1, 5), BEYOND);
    due("feed(1, -1)", x.feed(1, -1), BEYOND);
    for (int far : FAR) {
      due("feed(1, far)", x.feed(1, far), BEYOND);
    }
    for (int i = 1; i <= 29; i++) {
      due("feed(-1, 4)", x.feed(-1, 4), 4 * i);
    }
    due("feed(-1, 2)", x.feed(-1, 2), 118);
    due("119 and 120 fit, 121 doesn't", x.feed(-1, 3), FULL);
    due("and nothing changes", x.count(2), 118);
    due("n is asked first", x.feed(-1, 5), BEYOND);
    due("feed(-1, 2)", x.feed(-1, 2), 120);
    due("feed(-1, 1)", x.feed(-1, 1), FULL);
    due("count(2)", x.count(2), 120);
  }

  private static void p33() {
    HostageKings x = fresh();
    due("wipe()", x.wipe(), 0);
    feedAll(x, "king 0 fear 8");
    due("wipe()", x.wipe(), 13);
    due("count(2)", x.count(2), 0);
    due("wipe()", x.wipe(), 0);
    due("told anew", told(x, "king 0 fear 9"), 1);
    due("kingOf(0, 0)", x.kingOf(0, 0), 9);
  }

  private static void p34() {
    HostageKings x = fresh();
    due("court", told(x, "king 3 fear 12;eldest of 2;twin of 1 with 4;lost of 5 worth 0"), 4);
    due("the tape is empty", x.count(2), 0);
    due("fear", x.kingOf(3, 0), 12);
    dueChild(x, 0, 3, 2, 2, 10);
    dueChild(x, 1, 5, 1, 4, 10);
    dueChild(x, 2, 4, 5, 5, 0);
    due("court", told(x, "  child of 0 with 0 worth 99 ; heir of 1 worth 7;ward of 2 "), 3);
    dueChild(x, 3, 0, 0, 0, 99);
    dueChild(x, 4, 1, 1, 1, 7);
    dueChild(x, 5, 2, 2, 2, 10);
    due("court", told(x, "word 0 to 5 gain 999;word5to0gain0until0;word 1 to 2 gain 007 until 998"), 3);
    dueTreaty(x, 0, new int[] {0, 5, 999, 999});
    dueTreaty(x, 1, new int[] {5, 0, 0, 0});
    dueTreaty(x, 2, new int[] {1, 2, 7, 998});
    due("it comes to what there is", x.count(0), 6);
    due("the last fear stays", told(x, "king 0 fear 1;king 0 fear 99"), 2);
    due("the last fear stays", x.kingOf(0, 0), 99);
    due("the least fear, the last king", told(x, "king 0 fear 0;heir of 0 with 5 worth 99"), 2);
    due("kingOf(0, 0)", x.kingOf(0, 0), 0);
    dueChild(x, 6, 1, 0, 5, 99);
    due("no findings", x.status(-1), 0);
    due("a number is as long as can be", told(x, "king 00000000000000000000000000000 fear 0000000000000000005"), 1);
    due("kingOf(0, 0)", x.kingOf(0, 0), 5);
    faults();
    faultsChangeNothing();
    faultsOfFull();
  }

  private static void dueChild(HostageKings x, int child, int... want) {
    for (int what = 0; what < want.length; what++) {
      due("of(" + child + ", " + what + ")", x.of(child, what), want[what]);
    }
  }

  /** The sign ^ stands ahead of the token that can't stand, or at the end. */
  private static void faults() {
    String[] texts = {
      "^", "   ^", "^;", "king 0 fear 1;^", "king 0 fear 1; ^", "king 0 fear 1;^;king 0 fear 1",
      "^5", "^fear 1", "^kings 0 fear 1", "^kin", "king^" + (char) 233 + " 0", "^KING 0 fear 1", "^kingz 0 fear 1", "^xing 0 fear 1", "^kinx 0", "king^`0", "king^{0",
      "king 0 fear 1^/", "king 0 fear 1^:",
      "king^", "king ^", "king ^6 fear 1", "king ^fear 1", "king 0^", "king 0 ^1", "king 0 ^of",
      "king 0 fear^", "king 0 fear ^100", "king 0 fear ^1000", "king 0 fear ^99999999999999999999",
      "king 0 fear ^;", "king 0 fear 1 ^2", "king 0 fear 1 ^king 0 fear 1", "king 0 ^,fear 1",
      "king 0 fear ^-1", "king 0 fear 1^.", "king 0 fear 1^\t", "king^\n0 fear 1", "^" + (char) 0,
      "king 0 fear 1;  ^dog", "king ^4294967296 fear 1", "king ^10 fear 1",
      "heir^", "heir ^1", "heir of^", "heir of ^6", "heir of ^with 1", "heir of 1 ^of 2",
      "heir of 1 with^", "heir of 1 with ^6", "heir of 1 with ^;", "heir of 1 with ^worth 3",
      "heir of 1 worth^", "heir of 1 worth ^100", "heir of 1 worth 3 ^with 2", "heir of 1 ^2",
      "heir of 1 with 2 ^with 2", "heir of 1 with 2 worth 3 ^worth 3", "^heirof 1", "heir of 1 ^until 2",
      "^twins of 1", "^eld est of 1", "heir of1with 2 ^x",
      "word^", "word ^6 to 1 gain 1", "word 0^", "word 0 ^1", "word 0 to^", "word 0 to ^0 gain 1",
      "word 0 to ^6 gain 1", "word 0 to ^000 gain 1", "word 0 to 1^", "word 0 to 1 ^2", "word 0 to 1 gain^",
      "word 0 to 1 gain ^1000", "word 0 to 1 gain ^until", "word 0 to 1 gain 1 until^",
      "word 0 to 1 gain 1 until ^1000", "word 0 to 1 gain 1 until ^;", "word 0 to 1 gain 1 ^worth 1",
      "word 0 to 1 gain 1 until 1 ^until 1", "word 0 to 1 ^until 5 gain 1", "word 0 ^with 1",
      "word ^to 1 gain 1", "king 0 fear 1 ^and"};
    for (String text : texts) {
      HostageKings x = fresh();
      due("court of " + text, told(x, text.replace("^", "")), -1 - text.indexOf('^'));
      due("the tape is empty", x.count(2), 0);
      due("no finding", x.status(-1), 0);
    }
    HostageKings x = fresh();
    due("the last byte", told(x, " ".repeat(119) + "x"), -120);
    due("all blank", told(x, " ".repeat(120)), -121);
  }

  private static void faultsChangeNothing() {
    HostageKings x = fresh();
    x.fear(0, 5);
    due("court", told(x, "king 0 fear 1;heir of 1;word 0 to 1 gain 1;king"), -48);
    due("kingOf(0, 0)", x.kingOf(0, 0), 5);
    due("count(0)", x.count(0), 0);
    due("count(1)", x.count(1), 0);
    due("count(2)", x.count(2), 0);
  }

  private static void faultsOfFull() {
    HostageKings x = fresh();
    for (int c = 0; c < 13; c++) {
      x.child(0, 0, 0);
    }
    due("a 15th child", told(x, "heir of 1;king 0 fear 1; ward of 2"), -26);
    due("count(0)", x.count(0), 13);
    due("a 14th child", told(x, "heir of 1;king 0 fear 1"), 2);
    due("a 15th child, at once", told(x, "twin"), -1);
    for (int t = 0; t < 11; t++) {
      x.treaty(0, 1, 0, 0);
    }
    due("a 13th treaty", told(x, "word 1 to 2 gain 3;word 1 to 2 gain 3"), -20);
    due("count(1)", x.count(1), 11);
    due("a 12th treaty", told(x, "word 1 to 2 gain 3"), 1);
    due("a 13th treaty, at once", told(x, "word"), -1);
    due("a fear still", told(x, "king 5 fear 5"), 1);
    due("count(0)", x.count(0), 14);
    due("count(1)", x.count(1), 12);
  }

  private static void p35() {
    HostageKings x = fresh();
    due("sheet(0, 8, 40)", x.sheet(0, 8, 40), 40);
    due("sheet(1, 16, 0)", x.sheet(1, 16, 0), 0);
    due("sheet(3, 64, 1)", x.sheet(3, 64, 1), 1);
    x.write(0, 39, 5);
    due("of no numbers isn't missing", x.write(1, 0, 0), BEYOND);
    due("sheet(2) is missing", x.write(2, 0, 0), MISSING);
    due("sheet(4, 8, 1)", x.sheet(4, 8, 1), BEYOND);
    due("sheet(-1, 8, 1)", x.sheet(-1, 8, 1), BEYOND);
    for (int bits : new int[] {-8, -1, 1, 7, 9, 15, 17, 32, 63, 65, Integer.MAX_VALUE, Integer.MIN_VALUE}) {
      due("sheet(0, " + bits + ", 1)", x.sheet(0, bits, 1), BEYOND);
    }
    due("sheet(0, 8, -1)", x.sheet(0, 8, -1), SIZE);
    due("sheet(0, 0, -1)", x.sheet(0, 0, -1), SIZE);
    due("sheet(0, 8, min)", x.sheet(0, 8, Integer.MIN_VALUE), SIZE);
    due("sheet(0, 9, -1)", x.sheet(0, 9, -1), BEYOND);
    due("sheet(4, 8, -1)", x.sheet(4, 8, -1), BEYOND);
    due("sheet(0, 8, 41)", x.sheet(0, 8, 41), BEYOND);
    due("sheet(0, 0, 41)", x.sheet(0, 0, 41), BEYOND);
    due("sheet(0, 8, max)", x.sheet(0, 8, Integer.MAX_VALUE), BEYOND);
    due("nothing changed", x.write(0, 39, 6), 5);
    x.write(0, 0, 5);
    due("sheet(0, 16, 40)", x.sheet(0, 16, 40), 40);
    due("all 0", x.write(0, 39, 7), 0);
    due("all 0", x.write(0, 0, 7), 0);
    due("sheet(0, 0, 40)", x.sheet(0, 0, 40), 0);
    due("missing", x.write(0, 39, 7), MISSING);
    due("sheet(0, 0, 0)", x.sheet(0, 0, 0), 0);
    due("sheet(0, 16, 40)", x.sheet(0, 16, 40), 40);
    due("all 0", x.write(0, 39, 7), 0);
  }

  private static void p36() {
    HostageKings x = fresh();
    long[] values = {0, 127, 128, 255, 256, -128, -129, 32767, 32768, 65535, 65536, -32768, -32769,
      Long.MAX_VALUE, Long.MIN_VALUE, -1, 1L << 32, -1000000001L};
    int[] bits = {8, 16, 64};
    for (int s = 0; s < 3; s++) {
      x.sheet(s, bits[s], 2);
      for (long v : values) {
        long want = s == 0 ? (byte) v : s == 1 ? (short) v : v;
        x.write(s, 1, v);
        due("what it was, of " + v + " in " + bits[s], x.write(s, 1, 0), want);
      }
      due("number 0", x.write(s, 0, 0), 0);
      due("write(s, 2, 0)", x.write(s, 2, 0), BEYOND);
      due("write(s, -1, 0)", x.write(s, -1, 0), BEYOND);
      for (int far : FAR) {
        due("write(s, far, 0)", x.write(s, far, 0), BEYOND);
      }
    }
    due("write(3, 0, 0)", x.write(3, 0, 0), MISSING);
    due("write(3, -1, 0)", x.write(3, -1, 0), MISSING);
    due("write(4, 0, 0)", x.write(4, 0, 0), BEYOND);
    due("write(-1, 0, 0)", x.write(-1, 0, 0), BEYOND);
    for (int far : FAR) {
      due("write(far, 0, 0)", x.write(far, 0, 0), BEYOND);
    }
    x.wipe();
    int findings = x.status(-1);
    x.write(2, 0, -1000000001L);
    x.write(2, 0, -1000000001L);
    due("a number like a finding is none", x.status(-1), findings);
  }

  private static void dueSheet(HostageKings x, int s, long... want) {
    for (int i = 0; i < want.length; i++) {
      long got = x.write(s, i, 0);
      x.write(s, i, got);
      due("sheet " + s + ", number " + i, got, want[i]);
    }
    due("sheet " + s + " has no more", x.write(s, want.length, 0), BEYOND);
  }

  private static void p37() {
    HostageKings x = fresh();
    laySheet(x, 0, 1, 2, 3, 4, 5);
    laySheet(x, 1, 0, 0, 0);
    x.sheet(2, 16, 5);
    due("copy(0, 1, 1, 0, 2)", x.copy(0, 1, 1, 0, 2), 2);
    dueSheet(x, 1, 2, 3, 0);
    due("copy(0, 0, 0, 1, 4)", x.copy(0, 0, 0, 1, 4), 4);
    dueSheet(x, 0, 1, 1, 2, 3, 4);
    due("copy(0, 1, 0, 0, 4)", x.copy(0, 1, 0, 0, 4), 4);
    dueSheet(x, 0, 1, 2, 3, 4, 4);
    due("copy(0, 5, 1, 3, 0)", x.copy(0, 5, 1, 3, 0), 0);
    due("copy(0, 6, 1, 0, 0)", x.copy(0, 6, 1, 0, 0), BEYOND);
    due("copy(0, 0, 1, 4, 0)", x.copy(0, 0, 1, 4, 0), BEYOND);
    due("copy(0, 4, 1, 0, 2)", x.copy(0, 4, 1, 0, 2), BEYOND);
    due("copy(0, 0, 1, 2, 2)", x.copy(0, 0, 1, 2, 2), BEYOND);
    due("copy(0, -1, 1, 0, 1)", x.copy(0, -1, 1, 0, 1), BEYOND);
    due("copy(0, 0, 1, -1, 1)", x.copy(0, 0, 1, -1, 1), BEYOND);
    due("copy(0, 0, 1, 0, -1)", x.copy(0, 0, 1, 0, -1), BEYOND);
    for (int far : FAR) {
      due("copy(0, far, 1, 0, 1)", x.copy(0, far, 1, 0, 1), BEYOND);
      due("copy(0, 0, 1, far, 1)", x.copy(0, 0, 1, far, 1), BEYOND);
      due("copy(0, 0, 1, 0, far)", x.copy(0, 0, 1, 0, far), BEYOND);
      due("copy(far, 0, 1, 0, 1)", x.copy(far, 0, 1, 0, 1), BEYOND);
      due("copy(0, 0, far, 0, 1)", x.copy(0, 0, far, 0, 1), BEYOND);
    }
    due("copy(0, max, 1, 0, max)", x.copy(0, Integer.MAX_VALUE, 1, 0, Integer.MAX_VALUE), BEYOND);
    due("other bits", x.copy(0, 0, 2, 0, 1), KIND);
    due("other bits", x.copy(0, -1, 2, 0, 1), KIND);
    due("missing", x.copy(0, 0, 3, 0, 1), MISSING);
    due("missing", x.copy(3, -1, 0, 0, 1), MISSING);
    due("no sheet", x.copy(3, 0, 4, 0, 1), BEYOND);
    due("no sheet", x.copy(4, 0, 3, 0, 1), BEYOND);
    due("no sheet", x.copy(-1, 0, 0, 0, 1), BEYOND);
    due("no sheet", x.copy(0, 0, -1, 0, 1), BEYOND);
    dueSheet(x, 1, 2, 3, 0);
  }

  private static void p38() {
    HostageKings x = fresh();
    for (int c = 0; c < 5; c++) {
      x.child(0, 1, 1);
    }
    x.dies(3);
    due("missing", x.lays(0), MISSING);
    laySheet(x, 0, 5, 6, -1, 0, 1, 2);
    due("lays(0)", x.lays(0), 2);
    int[] holders = {5, 1, 1, 1, 1};
    for (int c = 0; c < 5; c++) {
      due("holder of " + c, x.of(c, 2), holders[c]);
    }
    x.sheet(1, 64, 2);
    x.write(1, 0, 1L << 32);
    x.write(1, 1, 3);
    due("as far as it has numbers", x.lays(1), 1);
    due("holder of 0", x.of(0, 2), 5);
    due("holder of 1", x.of(1, 2), 3);
    laySheet(x, 3, 0, 5);
    due("the first king, the last king", x.lays(3), 2);
    due("holder of 0", x.of(0, 2), 0);
    due("holder of 1", x.of(1, 2), 5);
    x.sheet(2, 16, 0);
    due("of no numbers", x.lays(2), 0);
    due("no sheet", x.lays(4), BEYOND);
    due("no sheet", x.lays(-1), BEYOND);
    for (int far : FAR) {
      due("lays(far)", x.lays(far), BEYOND);
    }
  }

  private static void p39() {
    HostageKings x = fresh();
    due("missing", x.roll(0), MISSING);
    laySheet(x, 0, 9, 9, 9, 9);
    due("no children", x.roll(0), 0);
    dueSheet(x, 0, 9, 9, 9, 9);
    x.child(0, 4, 1);
    abroad(x, 0, 1, 5, 1);
    abroad(x, 0, 1, 0, 1);
    x.dies(1);
    due("roll(0)", x.roll(0), 3);
    dueSheet(x, 0, 4, -1, 0, 9);
    x.sheet(1, 64, 2);
    due("as far as it has numbers", x.roll(1), 2);
    dueSheet(x, 1, 4, -1);
    due("no sheet", x.roll(4), BEYOND);
    due("no sheet", x.roll(-1), BEYOND);
    for (int far : FAR) {
      due("roll(far)", x.roll(far), BEYOND);
    }
  }

  private static void p40() {
    HostageKings x = fresh();
    due("missing", x.read(0), MISSING);
    x.sheet(0, 16, 0);
    due("of none", x.read(0), 0);
    laySheet(x, 0, 4, -1, 0);
    due("too many by all", x.read(0), 1);
    x.child(0, 4, 1);
    abroad(x, 0, 1, 5, 1);
    due("it isn't dead", x.read(0), 2);
    x.dies(1);
    due("one too many", x.read(0), 3);
    abroad(x, 0, 1, 0, 1);
    due("read(0)", x.read(0), 0);
    x.move(2, 3);
    due("another holder", x.read(0), 3);
    x.write(0, 2, 3);
    x.write(0, 1, 5);
    due("a dead one's holder", x.read(0), 2);
    x.write(0, 1, -1);
    x.child(0, 0, 0);
    due("one more must come", x.read(0), 4);
    x.sheet(1, 64, 4);
    x.roll(1);
    due("read(1)", x.read(1), 0);
    x.write(1, 0, (1L << 32) + 4);
    due("read(1)", x.read(1), 1);
    due("no sheet", x.read(4), BEYOND);
    due("no sheet", x.read(-1), BEYOND);
    for (int far : FAR) {
      due("read(far)", x.read(far), BEYOND);
    }
  }

  private static void p41() {
    HostageKings x = fresh();
    due("image()", x.image(), 1);
    x.child(0, 0, 0);
    due("image()", x.image(), 1);
    due("the latest is kept", x.undo(), 1);
    due("the state stays", x.count(0), 1);
  }

  private static void p42() {
    HostageKings x = fresh();
    due("undo()", x.undo(), NONE);
    x.fear(1, 11);
    abroad(x, 1, 1, 2, 50);
    x.treaty(1, 2, 111, 20);
    x.treaty(1, 3, 200, 20);
    x.months(2);
    x.image();
    for (int i = 0; i < 2; i++) {
      change(x);
      due("undo()", x.undo(), 1);
      due("fear", x.kingOf(1, 0), 11);
      dueChild(x, 0, 1, 1, 2, 50, 0, 100);
      dueTreaty(x, 0, new int[] {1, 2, 111, 20, 0, 1, 0});
      dueTreaty(x, 1, new int[] {1, 3, 200, 20, 1, 0, 0});
      due("month", x.now(0), 2);
      due("count(0)", x.count(0), 1);
      due("count(1)", x.count(1), 2);
    }
    due("a new child is not dead", x.child(0, 0, 7), 1);
    due("a new child is not dead", x.of(1, 4), 0);
    due("a new treaty is not broken", x.treaty(0, 1, 7, 999), 2);
    due("a new treaty is not broken", x.treatyOf(2, 4), 0);
    due("the tape stays", x.count(2), 4);
    due("sheets stay", x.write(0, 0, 0), 3);
    due("findings stay", x.status(3), 1);
  }

  private static void change(HostageKings x) {
    x.fear(1, 0);
    x.move(0, 4);
    x.worth(0, 1);
    x.turn(0, 2);
    x.dies(0);
    x.dies(x.child(0, 3, 3));
    x.gain(0, 999);
    x.treaty(4, 5, 6, 999);
    x.months(30);
    x.feed(65, 2);
    laySheet(x, 0, 3);
  }

  private static void p43() {
    HostageKings x = fresh();
    due("tear()", x.tear(), 0);
    x.image();
    x.image();
    due("tear()", x.tear(), 1);
    due("tear()", x.tear(), 0);
    due("undo()", x.undo(), NONE);
    x.child(0, 0, 0);
    x.image();
    due("undo()", x.undo(), 1);
    due("tear()", x.tear(), 1);
  }

  private static void p44() {
    HostageKings x = shaky();
    feedAll(x, "abc");
    due("count(0)", x.count(0), 5);
    due("count(1)", x.count(1), 6);
    due("count(2)", x.count(2), 3);
    due("count(3)", x.count(3), 10 + 40 + 30 + 40);
    x.dies(2);
    due("count(0) has dead ones", x.count(0), 5);
    due("count(3) has no dead ones", x.count(3), 90);
    x.fall();
    due("count(1) has broken ones", x.count(1), 6);
    due("count(3)", x.count(3), 40);
    due("count(4)", x.count(4), BEYOND);
    due("count(-1)", x.count(-1), BEYOND);
    for (int far : FAR) {
      due("count(far)", x.count(far), BEYOND);
    }
  }

  private static void p45() {
    HostageKings x = fresh();
    due("status(0)", x.status(0), 0);
    due("status(7)", x.status(7), BEYOND);
    due("status(-2)", x.status(-2), BEYOND);
    due("counted from then on", x.status(0), 2);
    x.feed(0, 0);
    for (int i = 0; i < 16; i++) {
      x.child(0, 0, 0);
    }
    x.as(0, 1);
    x.as(0, 2);
    x.as(0, 3);
    for (int i = 0; i < 4; i++) {
      x.plot();
    }
    x.dies(0);
    for (int i = 0; i < 5; i++) {
      x.dies(0);
    }
    for (int i = 0; i < 6; i++) {
      x.write(0, 0, 0);
    }
    for (int i = 0; i < 7; i++) {
      x.sheet(0, 8, -1);
    }
    int[] want = {3, 2, 3, 4, 5, 6, 7};
    for (int which = 0; which < 7; which++) {
      due("status(" + which + ")", x.status(which), want[which]);
    }
    due("status(-1)", x.status(-1), 30);
    x.image();
    x.status(99);
    x.undo();
    due("undo() takes none back", x.status(-1), 31);
    due("undo() takes none back", x.status(0), 4);
    due("a fault is no finding", told(x, "x"), -1);
    due("status(-1)", x.status(-1), 31);
    for (int far : FAR) {
      due("status(far)", x.status(far), BEYOND);
    }
  }
}
