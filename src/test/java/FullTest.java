/** All promises at the limits: every duct, wire and order there may be. */
public final class FullTest {
  private static final Check CHECK = new Check();
  private static final CableLooms X = new CableLooms();
  private static final Model M = new Model();

  public static void main(String[] args) {
    fill(X, M);
    askWires();
    askPlaces();
    askOrders();
    dearestCalls();
    CHECK.end();
  }

  private static void due(String call, long got, long want) {
    CHECK.due(call, got, want);
  }

  private static void fill(CableLooms x, Model m) {
    for (int i = 0; i < 16; i++) {
      int a = i % 10;
      int b = (a + 1 + i / 10 * 3) % 10;
      due("duct", x.duct(a, b, 5 + i % 3, 300), m.duct(a, b, 5 + i % 3, 300));
    }
    for (int i = 0; i < 20; i++) {
      int to = (i * 3 + 1 + i / 10) % 10;
      int from = to == i % 10 ? (to + 5) % 10 : i % 10;
      due("wire", x.wire(from, to, 50 - i, i % 4), m.wire(from, to, 50 - i, i % 4));
      due("option", x.option(i, 1 << i % 8), m.option(i, 1 << i % 8));
    }
    for (int i = 0; i < 8; i++) {
      due("order", x.order(255 >> i, 1000 - i), m.order(255 >> i, 1000 - i));
    }
    due("no more ducts", x.duct(0, 1, 1, 1), CableLooms.FULL);
    due("no more wires", x.wire(0, 1, 1, 0), CableLooms.FULL);
    due("no more orders", x.order(0, 1), CableLooms.FULL);
  }

  private static void askWires() {
    for (int i = 0; i < 20; i++) {
      due("lay", X.lay(i), M.lay(i));
    }
    due("all are laid", X.count(2), 20);
    due("apart", X.apart(0, 3, true), M.apart(0, 3, true));
    due("clashes", X.clashes(), M.clashes());
    due("lengths", X.count(5), M.count(5));
    for (int i = 0; i < 16; i++) {
      due("left", X.left(i, false), M.left(i, false));
      due("left", X.left(i, true), M.left(i, true));
    }
    for (int i = 0; i < 20; i++) {
      due("length", X.length(i), M.length(i));
      due("loss", X.loss(i, 100), M.loss(i, 100));
      for (int step = 0; step < 4; step++) {
        due("way", X.way(i, step), M.way(i, step));
      }
    }
    due("lift", X.lift(19), M.lift(19));
    due("lay", X.lay(19), M.lay(19));
    due("clashes", X.clashes(), M.clashes());
  }

  private static void askPlaces() {
    for (int b = 1; b < 10; b++) {
      due("far", X.far(0, b), M.far(0, b));
      due("two", X.two(b, 0), M.two(b, 0));
    }
    int[] sets = {3, 0b1000010001, 0b101010101, 0b1111100000, 1023};
    for (int set : sets) {
      due("net", X.net(set), M.net(set));
      due("splice", X.splice(set), M.splice(set));
    }
  }

  private static void askOrders() {
    due("weight", X.weight(255), M.weight(255));
    due("weight", X.weight(128), M.weight(128));
    due("weight", X.weight(256), M.weight(256));
    due("alike", X.alike(), M.alike());
    int[] setups = {0, 1000, 40000, 100000};
    for (int n : setups) {
      due("setup", X.setup(n), M.setup(n));
      due("best", X.best(), M.best());
      for (int order = 0; order < 8; order++) {
        due("loom", X.loom(order), M.loom(order));
      }
    }
  }

  // A run may ask little but the dearest calls; the last must answer as the first did.
  private static void dearestCalls() {
    CableLooms x = new CableLooms();
    fill(x, new Model());
    x.setup(100000);
    int net = x.net(3);
    long cost = x.best();
    for (int round = 0; round < 110; round++) {
      due("net", x.net(3), net);
      due("splice", x.splice(1023), CableLooms.NONE);
      due("setup", x.setup(100000), 100000);
      due("best", x.best(), cost);
    }
  }
}
