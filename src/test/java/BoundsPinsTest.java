/**
 * Promises 23 to 28, pins, tests and counts, and the 512 calls of an object: a test for each sentence
 * that names a boundary case. That refused calls change nothing stands in RefusedTest.
 */
public final class BoundsPinsTest {
  private static final Check CHECK = new Check();
  private static final int UNKNOWN = -1;
  private static final int OUTSIDE = -2;
  private static final int STATE = -3;

  private static void due(String call, long got, long want) {
    CHECK.due(call, got, want);
  }

  public static void main(String[] args) {
    pinTaken();
    pinUnknown();
    pinInWhichItWas();
    testsOfOneNet();
    testsOfEverySetOfNets();
    sideUnknown();
    sideOutside();
    sideFirstRefusal();
    sidePutTogether();
    showsUnknown();
    showsBothAreOne();
    showsFirstRefusal();
    showsAsBits();
    pairsOfOneNet();
    pairsOfAllNets();
    pairsJustInThese();
    pairsInNoTests();
    countOutside();
    countNothing();
    countTheMost();
    lastOf512Calls();
    CHECK.end();
  }

  /** Each net of the set gets a pin at least. */
  private static CableLooms withNets(int set) {
    CableLooms x = new CableLooms();
    int net = 0;
    for (int pin = 0; pin < 16; pin++) {
      while ((set >> net & 1) == 0) {
        net = (net + 1) % 8;
      }
      x.pin(pin, net);
      net = (net + 1) % 8;
    }
    return x;
  }

  private static boolean has(int set, int bit) {
    return (set >> bit & 1) == 1;
  }

  // ---- promise 23

  private static void pinTaken() {
    CHECK.sentence("23: PINS 0 .. 15 are in NETS 0 .. 7");
    CableLooms x = new CableLooms();
    for (int pin = 0; pin < 16; pin++) {
      for (int net = 0; net < 8; net++) {
        due("pin(" + pin + ", " + net + ")", x.pin(pin, net), net == 0 ? 0 : net - 1);
      }
    }
    due("all are in 7", x.count(4), 1);
  }

  private static void pinUnknown() {
    CHECK.sentence("23: UNKNOWN: pin, net");
    CableLooms x = new CableLooms();
    for (int pin : Numbers.not(0, 15)) {
      due("pin(" + pin + ", 1)", x.pin(pin, 1), UNKNOWN);
    }
    for (int net : Numbers.not(0, 7)) {
      due("pin(0, " + net + ")", x.pin(0, net), UNKNOWN);
      due("pin(15, " + net + ")", x.pin(15, net), UNKNOWN);
      due("pin(16, " + net + ")", x.pin(16, net), UNKNOWN);
    }
    for (int pin = 0; pin < 16; pin++) {
      due("all are in 0", x.pin(pin, 0), 0);
    }
    due("count(4)", x.count(4), 1);
  }

  private static void pinInWhichItWas() {
    CHECK.sentence("23: in which it was (each in NET 0 at first)");
    CableLooms x = new CableLooms();
    for (int pin = 0; pin < 16; pin++) {
      due("at first", x.pin(pin, (pin * 3 + 1) % 8), 0);
    }
    for (int pin = 0; pin < 16; pin++) {
      due("then", x.pin(pin, (pin * 3 + 1) % 8), (pin * 3 + 1) % 8);
    }
  }

  // ---- promise 24

  private static void testsOfOneNet() {
    CHECK.sentence("24: as many TESTS as are needed, of one NET none");
    due("a new object", new CableLooms().tests(), 0);
    for (int net = 0; net < 8; net++) {
      due("net " + net + " alone", withNets(1 << net).tests(), 0);
    }
    // Any one pin apart from the others is enough.
    for (int pin = 0; pin < 16; pin++) {
      CableLooms x = new CableLooms();
      for (int net = 0; net < 8; net++) {
        x.pin(pin, net);
        int needed = net == 0 ? 0 : net == 1 ? 1 : net < 4 ? 2 : 3;
        due("pin " + pin + " in " + net, x.tests(), needed);
        due("nets", x.count(4), net == 0 ? 1 : 2);
      }
    }
  }

  private static void testsOfEverySetOfNets() {
    CHECK.sentence("24: (bits up to the highest in which two of them are unlike)");
    for (int set = 1; set < 256; set++) {
      int needed = 0;
      for (int bit = 0; bit < 3; bit++) {
        boolean clear = false;
        boolean put = false;
        for (int net = 0; net < 8; net++) {
          clear |= has(set, net) && !has(net, bit);
          put |= has(set, net) && has(net, bit);
        }
        needed = clear && put ? bit + 1 : needed;
      }
      CableLooms x = withNets(set);
      due("nets " + Integer.toBinaryString(set), x.tests(), needed);
      due("count(4)", x.count(4), Integer.bitCount(set));
    }
  }

  // ---- promise 25

  private static void sideUnknown() {
    CHECK.sentence("25: UNKNOWN: pin");
    CableLooms x = withNets(255);
    for (int pin : Numbers.not(0, 15)) {
      due("side(0, " + pin + ")", x.side(0, pin), UNKNOWN);
      due("side(2, " + pin + ")", x.side(2, pin), UNKNOWN);
    }
    for (int pin = 0; pin < 16; pin++) {
      due("side(0, " + pin + ")", x.side(0, pin), pin & 1);
    }
  }

  private static void sideOutside() {
    CHECK.sentence("25: OUTSIDE: there is no such TEST");
    int[] nets = {0b1, 0b11, 0b101, 0b10001};
    for (int tests = 0; tests < 4; tests++) {
      CableLooms x = withNets(nets[tests]);
      due("tests()", x.tests(), tests);
      for (int test : Numbers.not(0, tests - 1)) {
        due("side(" + test + ", 0) of " + tests, x.side(test, 0), OUTSIDE);
        due("side(" + test + ", 15) of " + tests, x.side(test, 15), OUTSIDE);
      }
      for (int test = 0; test < tests; test++) {
        due("side(" + test + ", 15) of " + tests, x.side(test, 15), test == tests - 1 ? 1 : 0);
      }
    }
    // A bit in which all are alike ahead of the highest unlike one is a test, behind it is none.
    CableLooms y = withNets(0b11000000);
    due("nets 6 and 7", y.tests(), 1);
    due("side(0, 0)", y.side(0, 0), 0);
    due("side(0, 1)", y.side(0, 1), 1);
    due("side(1, 0)", y.side(1, 0), OUTSIDE);
    CableLooms z = withNets(0b10100000);
    due("nets 5 and 7", z.tests(), 2);
    due("side(0, 0)", z.side(0, 0), 1);
    due("side(2, 0)", z.side(2, 0), OUTSIDE);
  }

  private static void sideFirstRefusal() {
    CHECK.sentence("25: of several the first that a call names");
    CableLooms x = withNets(0b11);
    for (int pin : Numbers.not(0, 15)) {
      due("unknown, outside", x.side(1, pin), UNKNOWN);
      due("unknown, outside", x.side(-1, pin), UNKNOWN);
    }
  }

  private static void sidePutTogether() {
    CHECK.sentence("25: On which side (1: those put together)");
    CableLooms x = withNets(255);
    for (int pin = 0; pin < 16; pin++) {
      for (int test = 0; test < 3; test++) {
        due("side(" + test + ", " + pin + ")", x.side(test, pin), pin % 8 >> test & 1);
      }
    }
  }

  // ---- promise 26

  private static void showsUnknown() {
    CHECK.sentence("26: UNKNOWN: one has no PINS");
    CableLooms x = withNets(0b10000001);
    for (int net : Numbers.not(0, 7)) {
      due("shows(" + net + ", 0)", x.shows(net, 0), UNKNOWN);
      due("shows(7, " + net + ")", x.shows(7, net), UNKNOWN);
    }
    for (int net = 1; net < 7; net++) {
      due("shows(" + net + ", 0)", x.shows(net, 0), UNKNOWN);
      due("shows(7, " + net + ")", x.shows(7, net), UNKNOWN);
    }
    due("shows(7, 0)", x.shows(7, 0), 7);
    // The last pin of a net leaves it.
    CableLooms y = new CableLooms();
    due("7 has none yet", y.shows(0, 7), UNKNOWN);
    y.pin(15, 7);
    due("7 has one", y.shows(0, 7), 7);
    y.pin(15, 0);
    due("7 has none any more", y.shows(0, 7), UNKNOWN);
    for (int pin = 0; pin < 16; pin++) {
      due("0 has some", y.shows(0, 0), STATE);
      y.pin(pin, 1);
    }
    due("0 has none", y.shows(0, 0), UNKNOWN);
    due("0 has none", y.shows(0, 1), UNKNOWN);
    y.pin(0, 0);
    due("pin 0 alone is in 0", y.shows(0, 1), 1);
  }

  private static void showsBothAreOne() {
    CHECK.sentence("26: STATE: both are one");
    CableLooms x = withNets(255);
    for (int net = 0; net < 8; net++) {
      due("shows(" + net + ", " + net + ")", x.shows(net, net), STATE);
    }
  }

  private static void showsFirstRefusal() {
    CHECK.sentence("26: of several the first that a call names");
    CableLooms x = new CableLooms();
    for (int net = 1; net < 8; net++) {
      due("unknown, state", x.shows(net, net), UNKNOWN);
    }
    for (int net : Numbers.not(0, 7)) {
      due("unknown, state", x.shows(net, net), UNKNOWN);
    }
    due("state", x.shows(0, 0), STATE);
  }

  private static void showsAsBits() {
    CHECK.sentence("26: The TESTS in which a SHORT of two NETS SHOWS, as bits");
    CableLooms x = withNets(255);
    for (int one = 0; one < 8; one++) {
      for (int other = 0; other < 8; other++) {
        int bits = 0;
        for (int test = 0; test < 3; test++) {
          bits |= x.side(test, one) != x.side(test, other) ? 1 << test : 0;
        }
        if (one != other) {
          due("shows(" + one + ", " + other + ")", x.shows(one, other), bits);
        }
      }
    }
  }

  // ---- promise 27

  private static void pairsOfOneNet() {
    CHECK.sentence("27: pairs of NETS, of one NET none");
    for (int net = 0; net < 8; net++) {
      CableLooms x = withNets(1 << net);
      for (int tests = 0; tests < 8; tests++) {
        due("net " + net + " alone: pairs(" + tests + ")", x.pairs(tests), 0);
      }
    }
  }

  private static void pairsOfAllNets() {
    CHECK.sentence("27: How many pairs of NETS (that have PINS)");
    CableLooms x = withNets(255);
    for (int tests = 1; tests < 8; tests++) {
      due("pairs(" + tests + ")", x.pairs(tests), 4);
    }
    for (int one = 0; one < 8; one++) {
      for (int other = one + 1; other < 8; other++) {
        CableLooms y = withNets(1 << one | 1 << other);
        for (int tests = 0; tests < 8; tests++) {
          due("nets " + one + " and " + other + ": pairs(" + tests + ")", y.pairs(tests),
              tests == (one ^ other) ? 1 : 0);
        }
      }
    }
  }

  private static void pairsJustInThese() {
    CHECK.sentence("27: SHOW just in these TESTS (bits)");
    for (int set = 1; set < 256; set++) {
      int[] found = new int[8];
      for (int one = 0; one < 8; one++) {
        for (int other = 0; other < one; other++) {
          found[one ^ other] += has(set, one) && has(set, other) ? 1 : 0;
        }
      }
      CableLooms x = withNets(set);
      for (int tests = 0; tests < 8; tests++) {
        due("nets " + Integer.toBinaryString(set) + ": pairs(" + tests + ")", x.pairs(tests),
            found[tests]);
      }
    }
  }

  private static void pairsInNoTests() {
    CHECK.sentence("27: in TESTS that are not there, or in none");
    CableLooms x = withNets(255);
    due("pairs(0)", x.pairs(0), 0);
    for (int bit = 3; bit < 32; bit++) {
      for (int tests = 0; tests < 8; tests++) {
        due("pairs(1 << " + bit + " | " + tests + ")", x.pairs(1 << bit | tests), 0);
      }
    }
    due("pairs(-1)", x.pairs(-1), 0);
    due("pairs(MAX)", x.pairs(Integer.MAX_VALUE), 0);
  }

  // ---- promise 28

  private static void countOutside() {
    CHECK.sentence("28: OUTSIDE");
    CableLooms x = new CableLooms();
    for (int what : Numbers.not(0, 5)) {
      due("count(" + what + ")", x.count(what), OUTSIDE);
    }
    int[] counts = {0, 0, 0, 0, 1, 0};
    for (int what = 0; what < 6; what++) {
      due("count(" + what + ")", x.count(what), counts[what]);
    }
  }

  private static void countNothing() {
    CHECK.sentence("28: 2 that are LAID, 5 all LENGTHS of WAYS together: none is LAID");
    CableLooms x = new CableLooms();
    x.duct(0, 1, 99, 300);
    for (int wire = 0; wire < 20; wire++) {
      x.wire(0, 1, 15, 0);
    }
    due("wires", x.count(1), 20);
    due("laid", x.count(2), 0);
    due("lengths", x.count(5), 0);
    for (int wire = 0; wire < 20; wire++) {
      x.lay(wire);
      due("laid", x.count(2), wire + 1);
      due("lengths", x.count(5), 99 * (wire + 1));
    }
    for (int wire = 0; wire < 20; wire++) {
      x.lift(wire);
      due("laid", x.count(2), 19 - wire);
      due("lengths", x.count(5), 99 * (19 - wire));
    }
    due("wires", x.count(1), 20);
  }

  private static void countTheMost() {
    CHECK.sentence("28: 0 DUCTS, 1 WIRES, 2 that are LAID, 3 ORDERS, 4 NETS, 5 LENGTHS: the most");
    CableLooms x = withNets(255);
    for (int i = 0; i < 17; i++) {
      x.duct(i % 9, i % 9 + 1, 99, 300);
    }
    for (int i = 0; i < 21; i++) {
      x.wire(i % 2 * 9, 9 - i % 2 * 9, 15, i % 4);
    }
    for (int i = 0; i < 9; i++) {
      x.order(i, 1);
    }
    for (int i = 0; i < 21; i++) {
      x.lay(i);
    }
    int[] counts = {16, 20, 20, 8, 8, 20 * 891};
    for (int what = 0; what < 6; what++) {
      due("count(" + what + ")", x.count(what), counts[what]);
    }
  }

  // ---- what it is

  private static void lastOf512Calls() {
    CHECK.sentence("An object is used for at most 512 calls after it has been made");
    CableLooms x = new CableLooms();
    for (int call = 0; call < 511; call++) {
      x.duct(0, 0, 1, 1);
    }
    due("the first duct by the last call", x.duct(0, 1, 1, 1), 0);
    CableLooms y = new CableLooms();
    y.duct(0, 1, 1, 300);
    y.wire(0, 1, 50, 0);
    for (int call = 2; call < 510; call += 2) {
      due("lay", y.lay(0), 1);
      due("lift", y.lift(0), 1);
    }
    due("lay", y.lay(0), 1);
    due("left by the last call", y.left(0, false), 250);
    CableLooms z = new CableLooms();
    for (int call = 0; call < 511; call++) {
      z.pin(call % 16, call % 7 + 1);
    }
    due("nets by the last call", z.count(4), 7);
  }
}
