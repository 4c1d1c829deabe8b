/**
 * Promises 16 to 22, options, orders and looms: a test for each sentence that names a boundary case.
 * That refused calls change nothing stands in RefusedTest.
 */
public final class BoundsOrdersTest {
  private static final Check CHECK = new Check();
  private static final int UNKNOWN = -1;
  private static final int OUTSIDE = -2;
  private static final int FULL = -4;

  private static void due(String call, long got, long want) {
    CHECK.due(call, got, want);
  }

  public static void main(String[] args) {
    optionUnknown();
    optionSet();
    optionFirstRefusal();
    optionWhatItWas();
    orderSet();
    orderPieces();
    orderFull();
    orderFirstRefusal();
    orderRefusedTakesNoNumber();
    setupBounds();
    setupWhatItWas();
    weightUnknown();
    weightOfNoOrders();
    weightNeedsAllOptions();
    weightLeastAndMost();
    weightNotLaidToo();
    bestWithoutOrders();
    bestLeastAndMost();
    bestAfterEachCall();
    bestSetupForEachLoom();
    loomUnknown();
    loomFewest();
    loomFewestAheadOfLesserNumbers();
    loomLesserNumber();
    loomAsTheyAreMet();
    alikeFew();
    alikeAll();
    alikeWithoutWires();
    CHECK.end();
  }

  private static CableLooms withWires(int wires) {
    CableLooms x = new CableLooms();
    for (int i = 0; i < wires; i++) {
      x.wire(0, 1, 1 + i, 0);
    }
    return x;
  }

  // ---- promise 16

  private static void optionUnknown() {
    CHECK.sentence("16: UNKNOWN");
    for (int wires = 0; wires <= 20; wires++) {
      CableLooms x = withWires(wires);
      for (int wire : Numbers.not(0, wires - 1)) {
        due("option(" + wire + ", 1) of " + wires, x.option(wire, 1), UNKNOWN);
      }
      if (wires > 0) {
        due("the last of " + wires, x.option(wires - 1, 1), 0);
        due("the last of " + wires, x.option(wires - 1, 1), 1);
      }
    }
  }

  private static void optionSet() {
    CHECK.sentence("16: a set of OPTIONS (0 to 255); OUTSIDE");
    CableLooms x = withWires(1);
    for (int set : Numbers.not(0, 255)) {
      due("option(0, " + set + ")", x.option(0, set), OUTSIDE);
    }
    due("the greatest", x.option(0, 255), 0);
    due("the least", x.option(0, 0), 255);
    for (int option = 0; option < 8; option++) {
      due("option " + option, x.option(0, 1 << option), option == 0 ? 0 : 1 << option - 1);
    }
    due("none beyond 7", x.option(0, 256), OUTSIDE);
    due("the last stays", x.option(0, 0), 128);
  }

  private static void optionFirstRefusal() {
    CHECK.sentence("16: of several the first that a call names");
    CableLooms x = withWires(1);
    for (int set : Numbers.not(0, 255)) {
      due("unknown, outside", x.option(1, set), UNKNOWN);
      due("unknown, outside", x.option(-1, set), UNKNOWN);
      due("outside", x.option(0, set), OUTSIDE);
    }
  }

  private static void optionWhatItWas() {
    CHECK.sentence("16: what it was (none at first)");
    CableLooms x = withWires(20);
    for (int wire = 0; wire < 20; wire++) {
      due("at first", x.option(wire, wire * 13 % 256), 0);
    }
    for (int wire = 0; wire < 20; wire++) {
      due("then", x.option(wire, 255), wire * 13 % 256);
      due("and then", x.option(wire, 255), 255);
    }
  }

  // ---- promise 17

  private static void orderSet() {
    CHECK.sentence("17: OUTSIDE: set");
    CableLooms x = new CableLooms();
    for (int set : Numbers.not(0, 255)) {
      due("order(" + set + ", 1)", x.order(set, 1), OUTSIDE);
    }
    due("the least", x.order(0, 1), 0);
    due("the greatest", x.order(255, 1), 1);
    x.wire(0, 1, 9, 0);
    x.option(0, 255);
    due("the least needs no option", x.weight(1), 0);
    due("the greatest has all", x.weight(2), 9);
  }

  private static void orderPieces() {
    CHECK.sentence("17: OUTSIDE: pieces (1 to 1000)");
    CableLooms x = withWires(1);
    for (int pieces : Numbers.not(1, 1000)) {
      due("order(0, " + pieces + ")", x.order(0, pieces), OUTSIDE);
    }
    x.setup(0);
    due("the least", x.order(0, 1), 0);
    due("a wire of 1 for it", x.best(), 1);
    due("the greatest", x.order(0, 1000), 1);
    due("a wire of 1 for both", x.best(), 1001);
  }

  private static void orderFull() {
    CHECK.sentence("17: FULL: 8");
    CableLooms x = withWires(1);
    x.setup(0);
    for (int i = 0; i < 8; i++) {
      due("count(3)", x.count(3), i);
      due("loom(" + i + ")", x.loom(i), UNKNOWN);
      due("order " + i, x.order(i, 1 + i), i);
      due("loom(" + i + ")", x.loom(i), 0);
    }
    for (int i = 0; i < 3; i++) {
      due("order 8", x.order(0, 1), FULL);
      due("count(3)", x.count(3), 8);
      due("loom(8)", x.loom(8), UNKNOWN);
      due("weight(256)", x.weight(256), UNKNOWN);
    }
    due("no pieces have come", x.best(), 36);
  }

  private static void orderFirstRefusal() {
    CHECK.sentence("17: of several the first that a call names");
    CableLooms x = new CableLooms();
    for (int i = 0; i < 9; i++) {
      due("outside", x.order(256, 1), OUTSIDE);
      due("outside", x.order(-1, 1), OUTSIDE);
      due("outside", x.order(0, 0), OUTSIDE);
      due("outside", x.order(0, 1001), OUTSIDE);
      due("outside, both", x.order(-1, 0), OUTSIDE);
      due("full or taken", x.order(0, 1), i < 8 ? i : FULL);
    }
  }

  private static void orderRefusedTakesNoNumber() {
    CHECK.sentence("17: An ORDER: its number");
    CableLooms x = new CableLooms();
    for (int i = 0; i < 8; i++) {
      x.order(256, 1);
      x.order(0, 1001);
      due("order after refusals", x.order(255, 1000), i);
    }
    due("count(3)", x.count(3), 8);
  }

  // ---- promise 18

  private static void setupBounds() {
    CHECK.sentence("18: OUTSIDE (0 to 100000)");
    CableLooms x = new CableLooms();
    x.order(0, 1);
    for (int n : Numbers.not(0, 100000)) {
      due("setup(" + n + ")", x.setup(n), OUTSIDE);
    }
    due("it is as it was", x.best(), 1000);
    due("the least", x.setup(0), 1000);
    due("it costs nothing", x.best(), 0);
    due("the greatest", x.setup(100000), 0);
    due("it costs the most", x.best(), 100000);
  }

  private static void setupWhatItWas() {
    CHECK.sentence("18: SETUP: what it was (1000 at first)");
    CableLooms x = new CableLooms();
    int[] told = {1000, 0, 100000, 99999, 1, 0};
    int was = 1000;
    for (int n : told) {
      due("setup(" + n + ")", x.setup(n), was);
      due("setup(100001)", x.setup(100001), OUTSIDE);
      due("setup(-1)", x.setup(-1), OUTSIDE);
      was = n;
    }
  }

  // ---- promise 19

  private static void weightUnknown() {
    CHECK.sentence("19: UNKNOWN: a bit is no ORDER");
    CableLooms x = withWires(3);
    for (int orders = 0; orders <= 8; orders++) {
      for (int bit = orders; bit < 32; bit++) {
        due("bit " + bit + " of " + orders, x.weight(1 << bit), UNKNOWN);
      }
      due("a bit more than " + orders, x.weight((2 << orders) - 1), UNKNOWN);
      due("all bits, of " + orders, x.weight(-1), UNKNOWN);
      due("all but the sign, of " + orders, x.weight(Integer.MAX_VALUE), UNKNOWN);
      due("all of " + orders, x.weight((1 << orders) - 1), orders == 0 ? 0 : 6);
      if (orders > 0) {
        due("the last of " + orders, x.weight(1 << orders - 1), 6);
      }
      x.order(0, 1);
    }
  }

  private static void weightOfNoOrders() {
    CHECK.sentence("19: a LOOM for a set of ORDERS, none in it");
    CableLooms x = withWires(3);
    due("no orders made", x.weight(0), 0);
    x.order(255, 1);
    due("none in the set", x.weight(0), 0);
  }

  private static void weightNeedsAllOptions() {
    CHECK.sentence("19: An ORDER needs WIRES whose OPTIONS are all in it");
    CableLooms x = new CableLooms();
    x.wire(0, 1, 5, 0);
    x.order(0, 1);
    due("none of none", x.weight(1), 5);
    for (int option = 0; option < 7; option++) {
      x.order(255 & ~(1 << option), 1);
    }
    for (int option = 0; option < 8; option++) {
      x.option(0, 1 << option);
      due("no option, wire with " + option, x.weight(1), 0);
      for (int missing = 0; missing < 7; missing++) {
        due("all but " + missing + ", wire with " + option, x.weight(2 << missing),
            option == missing ? 0 : 5);
      }
    }
    x.option(0, 255);
    for (int missing = 0; missing < 7; missing++) {
      due("all but " + missing + ", wire with all", x.weight(2 << missing), 0);
    }
    due("together they have all, each alone does not", x.weight(255), 0);
    CableLooms y = new CableLooms();
    y.wire(0, 1, 5, 0);
    y.option(0, 255);
    y.order(255, 1);
    due("all of all", y.weight(1), 5);
  }

  private static void weightLeastAndMost() {
    CHECK.sentence("19: THE WEIGHT of all WIRES");
    CableLooms x = new CableLooms();
    for (int i = 0; i < 8; i++) {
      x.order(0, 1);
    }
    due("no wires", x.weight(255), 0);
    x.wire(0, 1, 1, 0);
    due("the least", x.weight(255), 1);
    for (int i = 0; i < 19; i++) {
      x.wire(0, 1, 50, 0);
    }
    due("twenty wires, each once", x.weight(255), 951);
    due("for one order", x.weight(128), 951);
  }

  private static void weightNotLaidToo() {
    CHECK.sentence("19: (of WIRES that are not LAID, too)");
    CableLooms x = withWires(2);
    x.order(0, 1);
    x.duct(0, 1, 1, 1);
    due("none is laid", x.weight(1), 3);
    x.lay(0);
    due("one is laid", x.weight(1), 3);
    x.lift(0);
    due("lifted", x.weight(1), 3);
  }

  // ---- promise 20

  private static void bestWithoutOrders() {
    CHECK.sentence("20: (0: no ORDERS)");
    CableLooms x = new CableLooms();
    due("nothing made", x.best(), 0);
    x.setup(100000);
    due("with a setup", x.best(), 0);
    x.wire(0, 1, 50, 0);
    due("with a wire", x.best(), 0);
    x.order(0, 1001);
    due("with an order that was refused", x.best(), 0);
    x.order(0, 1000);
    due("with an order", x.best(), 150000);
  }

  private static void bestLeastAndMost() {
    CHECK.sentence("20: What THE BEST PLAN costs");
    CableLooms x = new CableLooms();
    x.setup(0);
    x.order(0, 1);
    due("no setup, no wires", x.best(), 0);
    x.wire(0, 1, 1, 0);
    due("the least that is not 0", x.best(), 1);
    CableLooms y = new CableLooms();
    y.setup(100000);
    for (int i = 0; i < 20; i++) {
      y.wire(9, 0, 50, 3);
    }
    for (int i = 0; i < 8; i++) {
      y.order(0, 1000);
      due("all wires in " + (i + 1) + " orders", y.best(), 100000 + 1000000L * (i + 1));
    }
  }

  private static void bestAfterEachCall() {
    CHECK.sentence("20: THE BEST PLAN, asked again after each call that changes it or is refused");
    CableLooms x = new CableLooms();
    x.setup(10);
    x.order(1, 2);
    due("no wires", x.best(), 10);
    x.wire(0, 1, 3, 0);
    due("a wire", x.best(), 16);
    x.option(0, 256);
    due("an option that is refused", x.best(), 16);
    x.option(0, 2);
    due("an option", x.best(), 10);
    x.option(0, 1);
    due("another option", x.best(), 16);
    x.order(1, 1001);
    due("an order that is refused", x.best(), 16);
    x.order(1, 1000);
    due("an order", x.best(), 3016);
    x.setup(100001);
    due("a setup that is refused", x.best(), 3016);
    x.setup(0);
    due("a setup", x.best(), 3006);
    x.wire(0, 1, 51, 0);
    due("a wire that is refused", x.best(), 3006);
  }

  private static void bestSetupForEachLoom() {
    CHECK.sentence("20: a SETUP for each LOOM");
    // Each order needs a wire of 30 of its own: two in one loom cost a setup less, and 60 more by
    // the wires that they do not need.
    CableLooms x = new CableLooms();
    for (int i = 0; i < 8; i++) {
      x.wire(0, 1, 30, 0);
      x.option(i, 1 << i);
      x.order(1 << i, 1);
    }
    x.setup(59);
    due("each its own", x.best(), 8 * 59 + 8 * 30);
    due("loom(7)", x.loom(7), 7);
    x.setup(60);
    due("like costs", x.best(), 8 * 60 + 8 * 30);
    for (int i = 0; i < 8; i++) {
      due("like costs, the fewest looms: loom(" + i + ")", x.loom(i), i / 2);
    }
    x.setup(61);
    due("two and two", x.best(), 4 * 61 + 8 * 60);
    x.setup(100000);
    due("all together", x.best(), 100000 + 8 * 240);
    due("loom(7)", x.loom(7), 0);
  }

  // ---- promise 21

  private static void loomUnknown() {
    CHECK.sentence("21: UNKNOWN");
    CableLooms x = withWires(1);
    for (int orders = 0; orders <= 8; orders++) {
      for (int order : Numbers.not(0, orders - 1)) {
        due("loom(" + order + ") of " + orders, x.loom(order), UNKNOWN);
      }
      if (orders > 0) {
        due("the last of " + orders, x.loom(orders - 1), 0);
      }
      x.order(0, 1);
    }
  }

  private static void loomFewest() {
    CHECK.sentence("21: of like ones the one of the fewest LOOMS");
    CableLooms x = new CableLooms();
    x.setup(0);
    for (int i = 0; i < 8; i++) {
      x.order(i, 1);
    }
    due("all plans cost nothing", x.best(), 0);
    for (int i = 0; i < 8; i++) {
      due("loom(" + i + ")", x.loom(i), 0);
    }
    // Two looms of one wire each: together costs 10 more by pieces and 10 less by setup.
    CableLooms y = new CableLooms();
    y.wire(0, 1, 10, 0);
    y.option(0, 1);
    y.order(0, 1);
    y.order(1, 1);
    y.setup(9);
    due("less by one in two", y.best(), 28);
    due("loom(1)", y.loom(1), 1);
    y.setup(10);
    due("like costs", y.best(), 30);
    due("loom(1)", y.loom(1), 0);
    y.setup(11);
    due("less by one in one", y.best(), 31);
    due("loom(1)", y.loom(1), 0);
  }

  private static void loomFewestAheadOfLesserNumbers() {
    CHECK.sentence("21: of like ones the one of the fewest LOOMS; of like ones, the lesser number");
    // 0 and 1 together, 2, 3: 5 + 2 * 3, 5 + 4 * 4, 5 + 3 * 7. As due: 5 + 5 * 4, 5 + 4 * 7.
    CableLooms x = ofTwoWires(3, 4, 5);
    x.order(0, 1);
    x.order(1, 1);
    x.order(2, 4);
    x.order(3, 3);
    due("like costs", x.best(), 58);
    int[] looms = {0, 1, 0, 1};
    for (int i = 0; i < 4; i++) {
      due("loom(" + i + ")", x.loom(i), looms[i]);
    }
    // 0 and 2 together, 1, 3: 4 + 2 * 2, 4 + 4 * 3, 4 + 4 * 5. As due: 4 + 5 * 5, 4 + 5 * 3.
    CableLooms y = ofTwoWires(3, 2, 4);
    y.order(2, 1);
    y.order(1, 4);
    y.order(0, 1);
    y.order(3, 4);
    due("like costs", y.best(), 48);
    int[] others = {0, 1, 1, 0};
    for (int i = 0; i < 4; i++) {
      due("loom(" + i + ")", y.loom(i), others[i]);
    }
  }

  private static CableLooms ofTwoWires(int first, int second, int setup) {
    CableLooms x = new CableLooms();
    x.wire(0, 1, first, 0);
    x.wire(0, 1, second, 0);
    x.option(0, 1);
    x.option(1, 2);
    x.setup(setup);
    return x;
  }

  private static void loomLesserNumber() {
    CHECK.sentence("21: of like ones, ORDER by ORDER the lesser number");
    // Orders 0 .. 6 need a heavy wire each; order 7 needs none and may lie with any.
    CableLooms x = new CableLooms();
    for (int i = 0; i < 7; i++) {
      x.wire(0, 1, 50, 0);
      x.option(i, 1 << i);
      x.order(1 << i, 1000);
    }
    x.order(0, 1);
    due("seven looms", x.best(), 7 * 1000 + 7 * 50000 + 50);
    for (int i = 0; i < 8; i++) {
      due("loom(" + i + ")", x.loom(i), i % 7);
    }
    // The one that may lie with any comes second: with 0, not with a later one.
    CableLooms y = new CableLooms();
    y.wire(0, 1, 50, 0);
    y.wire(0, 1, 50, 0);
    y.option(0, 1);
    y.option(1, 2);
    y.order(1, 1000);
    y.order(0, 1);
    y.order(2, 1000);
    int[] looms = {0, 0, 1};
    for (int i = 0; i < 3; i++) {
      due("loom(" + i + ")", y.loom(i), looms[i]);
    }
  }

  private static void loomAsTheyAreMet() {
    CHECK.sentence("21: LOOMS being numbered as they are met");
    CableLooms x = new CableLooms();
    for (int i = 0; i < 8; i++) {
      x.wire(0, 1, 50, 0);
      x.option(i, 128 >> i);
    }
    for (int i = 0; i < 8; i++) {
      x.order(1 << i, 1000);
      due("loom(" + i + ")", x.loom(i), i);
      due("loom(0)", x.loom(0), 0);
    }
    CableLooms y = new CableLooms();
    y.wire(0, 1, 50, 0);
    y.wire(0, 1, 50, 0);
    y.option(0, 1);
    y.option(1, 2);
    int[] sets = {2, 2, 1, 2, 1, 1, 2, 1};
    for (int i = 0; i < 8; i++) {
      y.order(sets[i], 1000);
    }
    for (int i = 0; i < 8; i++) {
      due("loom(" + i + ")", y.loom(i), 2 - sets[i]);
    }
  }

  // ---- promise 22

  private static void alikeFew() {
    CHECK.sentence("22: as another one");
    CableLooms x = withWires(1);
    due("no orders", x.alike(), 0);
    x.order(0, 1);
    due("one order is not alike to itself", x.alike(), 0);
    x.order(0, 1000);
    due("two", x.alike(), 2);
  }

  private static void alikeAll() {
    CHECK.sentence("22: (each such ORDER counted)");
    CableLooms x = withWires(1);
    for (int i = 0; i < 8; i++) {
      x.order(1 << i, 1);
      due("after " + (i + 1), x.alike(), i == 0 ? 0 : i + 1);
    }
    x.option(0, 1);
    due("order 0 has it alone", x.alike(), 7);
    x.option(0, 128);
    due("order 7 has it alone", x.alike(), 7);
    for (int i = 1; i < 8; i++) {
      x.wire(0, 1, 1, 0);
    }
    for (int i = 0; i < 8; i++) {
      x.option(i, 1 << i);
    }
    due("each has its own", x.alike(), 0);
    x.option(7, 3);
    due("order 7 has none, but no other", x.alike(), 0);
    x.option(3, 3);
    due("order 3 has none too", x.alike(), 2);
    CableLooms y = new CableLooms();
    for (int i = 0; i < 20; i++) {
      y.wire(0, 1, 1, 0);
    }
    y.option(19, 1);
    y.order(0, 1);
    y.order(1, 1);
    due("the last wire of twenty alone is unlike", y.alike(), 0);
    y.option(19, 2);
    due("neither has it", y.alike(), 2);
  }

  private static void alikeWithoutWires() {
    CHECK.sentence("22: need just the same WIRES, none of them");
    CableLooms x = new CableLooms();
    for (int i = 0; i < 8; i++) {
      x.order(1 << i, 1 + i);
    }
    due("no wires at all", x.alike(), 8);
  }
}
