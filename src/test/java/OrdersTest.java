/** Promises 16 to 22: options, orders, looms and the best plan. */
public final class OrdersTest {
  private static final Check CHECK = new Check();
  private static final int MIN = Integer.MIN_VALUE;
  private static final int MAX = Integer.MAX_VALUE;

  private static void due(String call, long got, long want) {
    CHECK.due(call, got, want);
  }

  private static void dueLooms(String what, CableLooms x, int... looms) {
    for (int order = 0; order < looms.length; order++) {
      due(what + ": loom(" + order + ")", x.loom(order), looms[order]);
    }
  }

  public static void main(String[] args) {
    promise16Option();
    promise17Order();
    promise18Setup();
    promise19Weight();
    promise20Best();
    promise20BestFollowsEveryChange();
    promise20BestWithTheMost();
    promise21Loom();
    promise21OfLikeCostsTheFewestLooms();
    promise21OfLikeLoomsTheLesserNumbers();
    promise22Alike();
    CHECK.end();
  }

  private static void promise16Option() {
    CableLooms x = new CableLooms();
    due("16: unknown ahead of outside", x.option(0, 256), CableLooms.UNKNOWN);
    x.wire(0, 1, 1, 0);
    x.wire(0, 1, 2, 0);
    int[] notWires = {-1, 2, 20, MIN, MAX};
    for (int wire : notWires) {
      due("16: unknown", x.option(wire, 0), CableLooms.UNKNOWN);
    }
    int[] notSets = {-1, 256, MIN, MAX};
    for (int set : notSets) {
      due("16: outside", x.option(0, set), CableLooms.OUTSIDE);
    }
    due("16: none at first", x.option(0, 255), 0);
    due("16: what it was", x.option(0, 3), 255);
    due("16: of that wire", x.option(1, 7), 0);
    due("16: none again", x.option(0, 0), 3);
    due("16: none again", x.option(0, 1), 0);
  }

  private static void promise17Order() {
    CableLooms x = new CableLooms();
    int[] notSets = {-1, 256, MIN, MAX};
    for (int set : notSets) {
      due("17: set", x.order(set, 1), CableLooms.OUTSIDE);
    }
    int[] notPieces = {0, -1, 1001, MIN, MAX};
    for (int pieces : notPieces) {
      due("17: pieces", x.order(0, pieces), CableLooms.OUTSIDE);
    }
    due("17: refused changes nothing", x.count(3), 0);
    due("17: least", x.order(0, 1), 0);
    due("17: most", x.order(255, 1000), 1);
    for (int i = 2; i < 8; i++) {
      due("17: number", x.order(0, 1), i);
    }
    due("17: full", x.order(0, 1), CableLooms.FULL);
    due("17: outside ahead of full", x.order(256, 1), CableLooms.OUTSIDE);
    due("17: outside ahead of full", x.order(0, 0), CableLooms.OUTSIDE);
    due("17: eight", x.count(3), 8);
  }

  private static void promise18Setup() {
    CableLooms x = new CableLooms();
    int[] wrong = {-1, 100001, MIN, MAX};
    for (int n : wrong) {
      due("18: outside", x.setup(n), CableLooms.OUTSIDE);
    }
    due("18: at first", x.setup(0), 1000);
    due("18: least", x.setup(100000), 0);
    due("18: most", x.setup(1), 100000);
    x.order(0, 1);
    due("18: it is paid", x.best(), 1);
  }

  private static void promise19Weight() {
    CableLooms x = new CableLooms();
    due("19: no orders", x.weight(0), 0);
    due("19: no such order", x.weight(1), CableLooms.UNKNOWN);
    x.order(0, 1);
    x.order(1, 1);
    x.order(2, 1);
    x.order(7, 1);
    due("19: no wires", x.weight(15), 0);
    x.wire(0, 1, 1, 0);
    x.wire(0, 1, 2, 0);
    x.wire(0, 1, 4, 0);
    x.wire(0, 1, 8, 0);
    x.wire(0, 1, 16, 0);
    x.option(1, 1);
    x.option(2, 2);
    x.option(3, 3);
    x.option(4, 8);
    int[] notSets = {16, 17, -1, MIN, MAX};
    for (int set : notSets) {
      due("19: a bit is no order", x.weight(set), CableLooms.UNKNOWN);
    }
    due("19: no options", x.weight(1), 1);
    due("19: one option", x.weight(2), 3);
    due("19: another option", x.weight(4), 5);
    due("19: both in one order", x.weight(8), 15);
    due("19: both, but in two orders", x.weight(6), 7);
    due("19: all", x.weight(15), 15);
    due("19: none", x.weight(0), 0);
    for (int i = 4; i < 8; i++) {
      x.order(255, 1);
    }
    due("19: eight orders", x.weight(255), 31);
    due("19: a ninth", x.weight(256), CableLooms.UNKNOWN);
    x.duct(0, 1, 1, 300);
    x.lay(0);
    due("19: laid or not", x.weight(1), 1);
  }

  private static void promise20Best() {
    CableLooms x = new CableLooms();
    due("20: no orders", x.best(), 0);
    x.wire(0, 1, 10, 0);
    due("20: no orders", x.best(), 0);
    x.order(0, 5);
    due("20: one", x.best(), 1050);
    x.wire(0, 1, 20, 0);
    x.option(1, 1);
    x.order(1, 3);
    // Together 1000 + 8 * 30, in two 2000 + 50 + 90.
    due("20: together", x.best(), 1240);
    x.setup(99);
    due("20: in two", x.best(), 338);
  }

  private static void promise20BestFollowsEveryChange() {
    CableLooms x = new CableLooms();
    x.setup(10);
    x.order(1, 2);
    due("20: no wires", x.best(), 10);
    x.wire(0, 1, 3, 0);
    due("20: after wire", x.best(), 16);
    x.option(0, 2);
    due("20: after option", x.best(), 10);
    x.order(3, 4);
    due("20: after order", x.best(), 28);
    x.setup(1);
    due("20: after setup", x.best(), 14);
    dueLooms("20", x, 0, 1);
    x.option(0, 1);
    due("20: after option", x.best(), 19);
    dueLooms("20", x, 0, 0);
  }

  private static void promise20BestWithTheMost() {
    CableLooms x = new CableLooms();
    for (int i = 0; i < 20; i++) {
      x.wire(0, 1, 50, 0);
    }
    for (int i = 0; i < 8; i++) {
      x.order(255, 1000);
    }
    x.setup(100000);
    due("20: the most", x.best(), 8100000);
    dueLooms("20", x, 0, 0, 0, 0, 0, 0, 0, 0);
    // Each order has an option of its own, with a heavy wire: eight looms.
    CableLooms y = new CableLooms();
    for (int i = 0; i < 16; i++) {
      y.wire(0, 1, 50, 0);
      y.option(i, 1 << i / 2);
    }
    for (int i = 0; i < 8; i++) {
      y.order(1 << i, 1000);
    }
    y.setup(100000);
    due("20: eight looms", y.best(), 1600000);
    dueLooms("20", y, 0, 1, 2, 3, 4, 5, 6, 7);
  }

  private static void promise21Loom() {
    CableLooms x = new CableLooms();
    due("21: unknown", x.loom(0), CableLooms.UNKNOWN);
    x.wire(0, 1, 10, 0);
    x.wire(0, 1, 20, 0);
    x.option(0, 1);
    x.option(1, 2);
    x.order(2, 100);
    x.order(1, 100);
    x.order(2, 100);
    x.order(1, 100);
    dueLooms("21: as they are met", x, 0, 1, 0, 1);
    due("21: cost", x.best(), 8000);
    int[] notOrders = {-1, 4, 8, MIN, MAX};
    for (int order : notOrders) {
      due("21: unknown", x.loom(order), CableLooms.UNKNOWN);
    }
  }

  private static void promise21OfLikeCostsTheFewestLooms() {
    CableLooms x = new CableLooms();
    x.wire(0, 1, 10, 0);
    x.setup(0);
    x.order(0, 5);
    x.order(0, 5);
    x.order(0, 5);
    due("21: cost", x.best(), 150);
    dueLooms("21: fewest looms", x, 0, 0, 0);
    // Apart costs 2 * 50 + 10, together 50 + 6 * 10: like ones.
    CableLooms y = new CableLooms();
    y.wire(0, 1, 10, 0);
    y.option(0, 1);
    y.setup(50);
    y.order(0, 5);
    y.order(1, 1);
    due("21: like costs", y.best(), 110);
    dueLooms("21: like costs", y, 0, 0);
    y.setup(49);
    due("21: apart is less by one", y.best(), 108);
    dueLooms("21: apart is less by one", y, 0, 1);
  }

  private static void promise21OfLikeLoomsTheLesserNumbers() {
    // Order 1 may lie with 0 or with 2 for like costs; 0 and 2 do not go together.
    CableLooms x = new CableLooms();
    x.wire(0, 1, 50, 0);
    x.wire(0, 1, 50, 0);
    x.option(0, 1);
    x.option(1, 2);
    x.setup(500);
    x.order(1, 100);
    x.order(0, 1);
    x.order(2, 100);
    due("21: cost", x.best(), 11050);
    dueLooms("21: the lesser number", x, 0, 0, 1);
    // Order 3 may lie with 0, 1 or 2.
    CableLooms y = new CableLooms();
    for (int i = 0; i < 3; i++) {
      y.wire(0, 1, 50, 0);
      y.option(i, 1 << i);
      y.order(1 << i, 100);
    }
    y.order(0, 1);
    due("21: cost", y.best(), 18050);
    dueLooms("21: the lesser number", y, 0, 1, 2, 0);
  }

  private static void promise22Alike() {
    CableLooms x = new CableLooms();
    due("22: none", x.alike(), 0);
    x.order(1, 5);
    due("22: alone", x.alike(), 0);
    x.order(2, 5);
    due("22: none needed by both", x.alike(), 2);
    x.wire(0, 1, 10, 0);
    due("22: one needed by both", x.alike(), 2);
    x.wire(0, 1, 10, 0);
    x.option(1, 1);
    due("22: unlike", x.alike(), 0);
    x.order(5, 1);
    due("22: other options, the same wires", x.alike(), 2);
    x.order(9, 1);
    due("22: three", x.alike(), 3);
    x.order(0, 1);
    due("22: two and three", x.alike(), 5);
    x.option(0, 8);
    due("22: less", x.alike(), 4);
    x.wire(0, 1, 10, 0);
    x.option(2, 2);
    due("22: the same weight is not the same wires", x.alike(), 2);
  }
}
