/**
 * All promises: runs of up to 512 calls, the same at every start, whose answers are compared with
 * those of the model. Numbers are drawn close together so that like ways and like plans come often,
 * and now and then far outside.
 */
public final class ModelTest {
  private static final Check CHECK = new Check();
  private static final int RUNS = 500;
  private static final int[] ODD = {-1, -2, 4, 8, 10, 16, 20, 51, 99, 100, 101, 256, 300, 301, 1000,
      1001, 1024, 100000, 100001, Integer.MIN_VALUE, Integer.MAX_VALUE};

  private long seed;
  private CableLooms x;
  private Model m;
  private String call;
  // How wide the numbers of a run are spread; 1 makes all lengths, pieces and the like one.
  private int spread;
  private int places;
  private int callsMade = 0;

  public static void main(String[] args) {
    for (int run = 0; run < RUNS; run++) {
      new ModelTest().compare(run);
    }
    CHECK.end();
  }

  private int draw(int n) {
    seed = seed * 6364136223846793005L + 1442695040888963407L;
    return (int) ((seed >>> 33) % n);
  }

  private int number(int least, int most) {
    if (draw(60) == 0) {
      return ODD[draw(ODD.length)];
    }
    return least + draw(most - least + 1);
  }

  private int place() {
    return number(0, places - 1);
  }

  private int near(int least, int most) {
    return number(least, Math.min(most, least + spread - 1));
  }

  private void compare(int run) {
    seed = run * 7919L + 17;
    x = new CableLooms();
    m = new Model();
    spread = new int[] {1, 2, 3, 12, 99}[draw(5)];
    places = 4 + draw(7);
    int ducts = 3 + draw(14);
    for (int i = 0; i < ducts; i++) {
      ask(0, run);
    }
    int calls = 60 + draw(420);
    while (callsMade < calls) {
      ask(1 + draw(27), run);
    }
  }

  private void ask(int which, int run) {
    long[] answers = which < 15 ? askWays(which) : askOrders(which);
    callsMade++;
    CHECK.due("run " + run + ": " + call, answers[0], answers[1]);
  }

  private long[] both(String name, long got, long want) {
    call = name;
    return new long[] {got, want};
  }

  private long[] askWays(int which) {
    int a = place();
    int b = place();
    int wire = number(0, Math.max(0, m.wires.size() - 1));
    int duct = number(0, Math.max(0, m.ducts.size() - 1));
    switch (which) {
      case 0: {
        int length = near(1, 99);
        int room = number(10, 10 + 3 * spread);
        return both("duct", x.duct(a, b, length, room), m.duct(a, b, length, room));
      }
      case 1: {
        int thickness = near(1, 50);
        int kind = number(0, 3);
        return both("wire", x.wire(a, b, thickness, kind), m.wire(a, b, thickness, kind));
      }
      case 2: {
        int one = number(0, 3);
        int other = number(0, 3);
        boolean is = draw(3) == 0;
        return both("apart", x.apart(one, other, is), m.apart(one, other, is));
      }
      case 3:
      case 4:
      case 5:
        return both("lay", x.lay(wire), m.lay(wire));
      case 6:
        return both("lift", x.lift(wire), m.lift(wire));
      case 7:
      case 8: {
        int i = number(0, 4);
        return both("way", x.way(wire, i), m.way(wire, i));
      }
      case 9:
        return both("length", x.length(wire), m.length(wire));
      case 10: {
        boolean wires = draw(2) == 0;
        return both("left", x.left(duct, wires), m.left(duct, wires));
      }
      case 11: {
        int current = number(1, 100);
        return both("loss", x.loss(wire, current), m.loss(wire, current));
      }
      case 12:
        return both("clashes", x.clashes(), m.clashes());
      case 13:
        return both("far", x.far(a, b), m.far(a, b));
      default:
        return both("two", x.two(a, b), m.two(a, b));
    }
  }

  private long[] askOrders(int which) {
    int wire = number(0, Math.max(0, m.wires.size() - 1));
    int order = number(0, Math.max(0, m.orders.size() - 1));
    int options = number(0, draw(2) == 0 ? 7 : 255);
    switch (which) {
      case 15:
      case 16: {
        // The model tries all sets of ducts, so many ducts are asked for nets now and then only.
        if (m.ducts.size() > 12 && draw(8) != 0) {
          return both("count", x.count(5), m.count(5));
        }
        int set = number(0, 1023) & number(0, 1023) & (1 << places) - 1;
        return which == 15
            ? both("net " + set, x.net(set), m.net(set))
            : both("splice " + set, x.splice(set), m.splice(set));
      }
      case 17:
        return both("option", x.option(wire, options), m.option(wire, options));
      case 18: {
        if (m.orders.size() >= 6 && draw(20) != 0) {
          return both("alike", x.alike(), m.alike());
        }
        int pieces = near(1, 1000);
        return both("order", x.order(options, pieces), m.order(options, pieces));
      }
      case 19: {
        int n = number(0, 4 * spread);
        return both("setup", x.setup(n), m.setup(n));
      }
      case 20: {
        int set = number(0, Math.max(1, (1 << m.orders.size()) - 1));
        return both("weight", x.weight(set), m.weight(set));
      }
      case 21:
        return both("best", x.best(), m.best());
      case 22:
        return both("loom", x.loom(order), m.loom(order));
      default:
        return askPins(which);
    }
  }

  private long[] askPins(int which) {
    int pin = number(0, 15);
    int net = number(0, 7);
    switch (which) {
      case 23:
        return both("pin", x.pin(pin, net), m.pin(pin, net));
      case 24: {
        // Pins are brought together again, so that tests become few.
        callsMade += 15;
        long wrong = 0;
        for (int p = 0; p < 16; p++) {
          int to = net & 6 | (p + pin) & 1;
          wrong += x.pin(p, to) == m.pin(p, to) ? 0 : 1;
        }
        return both("pins", wrong, 0);
      }
      case 25:
        callsMade++;
        return both("tests and pairs", x.tests() * 100 + x.pairs(net), m.tests() * 100 + m.pairs(net));
      case 26: {
        int test = number(0, 2);
        return both("side", x.side(test, pin), m.side(test, pin));
      }
      default: {
        int other = number(0, 7);
        int what = number(0, 5);
        return draw(2) == 0
            ? both("shows", x.shows(net, other), m.shows(net, other))
            : both("count", x.count(what), m.count(what));
      }
    }
  }
}
