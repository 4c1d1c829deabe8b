import java.util.ArrayList;
import java.util.List;

/** The document in its plainest form: it tries every way, every set of ducts, every plan. */
final class Model {
  static final int UNKNOWN = -1;
  static final int OUTSIDE = -2;
  static final int STATE = -3;
  static final int FULL = -4;
  static final int NONE = -9;

  record Duct(int a, int b, int length, int room) {
    boolean touches(int place) {
      return a == place || b == place;
    }
  }

  static final class Wire {
    int from;
    int to;
    int thickness;
    int kind;
    int options = 0;
    List<Integer> way = null;
  }

  record Order(int set, int pieces) {
  }

  final List<Duct> ducts = new ArrayList<>();
  final List<Wire> wires = new ArrayList<>();
  final List<Order> orders = new ArrayList<>();
  final boolean[][] apart = new boolean[4][4];
  final int[] nets = new int[16];
  int setup = 1000;

  // ---- ducts, wires

  int duct(int a, int b, int length, int room) {
    if (!in(a, 0, 9) || !in(b, 0, 9)) return UNKNOWN;
    if (!in(length, 1, 99) || !in(room, 1, 300)) return OUTSIDE;
    if (a == b) return STATE;
    if (ducts.size() == 16) return FULL;
    ducts.add(new Duct(a, b, length, room));
    return ducts.size() - 1;
  }

  int wire(int from, int to, int thickness, int kind) {
    if (!in(from, 0, 9) || !in(to, 0, 9)) return UNKNOWN;
    if (!in(thickness, 1, 50) || !in(kind, 0, 3)) return OUTSIDE;
    if (from == to) return STATE;
    if (wires.size() == 20) return FULL;
    Wire wire = new Wire();
    wire.from = from;
    wire.to = to;
    wire.thickness = thickness;
    wire.kind = kind;
    wires.add(wire);
    return wires.size() - 1;
  }

  int apart(int one, int other, boolean is) {
    if (!in(one, 0, 3) || !in(other, 0, 3)) return OUTSIDE;
    if (one == other) return STATE;
    int were = apart[one][other] ? 1 : 0;
    apart[one][other] = is;
    apart[other][one] = is;
    return were;
  }

  int lay(int wire) {
    if (!in(wire, 0, wires.size() - 1)) return UNKNOWN;
    Wire w = wires.get(wire);
    if (w.way != null) return STATE;
    List<Integer> best = null;
    for (List<Integer> way : ways(w.from, w.to)) {
      if (mayGo(w, way) && (best == null || isShorter(way, best))) best = way;
    }
    if (best == null) return NONE;
    w.way = best;
    return lengthOf(best);
  }

  int lift(int wire) {
    if (!in(wire, 0, wires.size() - 1)) return UNKNOWN;
    Wire w = wires.get(wire);
    if (w.way == null) return STATE;
    int had = lengthOf(w.way);
    w.way = null;
    return had;
  }

  int way(int wire, int i) {
    if (!in(wire, 0, wires.size() - 1)) return UNKNOWN;
    Wire w = wires.get(wire);
    if (w.way == null || !in(i, 0, w.way.size() - 1)) return NONE;
    return w.way.get(i);
  }

  int length(int wire) {
    if (!in(wire, 0, wires.size() - 1)) return UNKNOWN;
    Wire w = wires.get(wire);
    return w.way == null ? NONE : lengthOf(w.way);
  }

  int left(int duct, boolean count) {
    if (!in(duct, 0, ducts.size() - 1)) return UNKNOWN;
    int room = ducts.get(duct).room;
    for (Wire w : beside(duct)) room -= w.thickness;
    return count ? beside(duct).size() : room;
  }

  int loss(int wire, int current) {
    if (!in(wire, 0, wires.size() - 1)) return UNKNOWN;
    if (!in(current, 1, 100)) return OUTSIDE;
    Wire w = wires.get(wire);
    if (w.way == null) return STATE;
    int all = 20 * current * lengthOf(w.way);
    return all / w.thickness + (all % w.thickness == 0 ? 0 : 1);
  }

  int clashes() {
    int found = 0;
    for (Wire w : wires) {
      boolean clashes = false;
      for (int duct = 0; duct < ducts.size(); duct++) {
        if (!beside(duct).contains(w)) continue;
        for (Wire v : beside(duct)) clashes |= apart[w.kind][v.kind];
      }
      if (clashes) found++;
    }
    return found;
  }

  // ---- two ways, nets

  int far(int a, int b) {
    if (!in(a, 0, 9) || !in(b, 0, 9)) return UNKNOWN;
    if (a == b) return STATE;
    int least = Integer.MAX_VALUE;
    for (List<Integer> way : ways(a, b)) least = Math.min(least, lengthOf(way));
    return least == Integer.MAX_VALUE ? NONE : least;
  }

  int two(int a, int b) {
    if (!in(a, 0, 9) || !in(b, 0, 9)) return UNKNOWN;
    if (a == b) return STATE;
    List<List<Integer>> all = ways(a, b);
    int least = Integer.MAX_VALUE;
    for (List<Integer> one : all) {
      for (List<Integer> other : all) {
        if ((bitsOf(one) & bitsOf(other)) == 0) {
          least = Math.min(least, lengthOf(one) + lengthOf(other));
        }
      }
    }
    return least == Integer.MAX_VALUE ? NONE : least;
  }

  int net(int set) {
    if (!in(set, 0, 1023) || Integer.bitCount(set) < 2) return OUTSIDE;
    return leastNet(set, -1);
  }

  int splice(int set) {
    if (!in(set, 0, 1023) || Integer.bitCount(set) < 2) return OUTSIDE;
    int whole = leastNet(set, -1);
    if (whole == NONE) return NONE;
    for (int place = 0; place < 10; place++) {
      if ((set >> place & 1) == 1) continue;
      int without = leastNet(set, place);
      if (without == NONE || without > whole) return place;
    }
    return NONE;
  }

  private int leastNet(int set, int forbidden) {
    int least = Integer.MAX_VALUE;
    for (int taken = 0; taken < 1 << ducts.size(); taken++) {
      int length = 0;
      boolean allowed = true;
      for (int d = 0; d < ducts.size(); d++) {
        if ((taken >> d & 1) == 0) continue;
        length += ducts.get(d).length;
        allowed &= !ducts.get(d).touches(forbidden);
      }
      if (allowed && length < least && hangTogether(set, taken)) least = length;
    }
    return least == Integer.MAX_VALUE ? NONE : least;
  }

  private boolean hangTogether(int set, int taken) {
    int reached = Integer.lowestOneBit(set);
    int before = 0;
    while (before != reached) {
      before = reached;
      for (int d = 0; d < ducts.size(); d++) {
        if ((taken >> d & 1) == 0) continue;
        int ends = 1 << ducts.get(d).a | 1 << ducts.get(d).b;
        if ((reached & ends) != 0) reached |= ends;
      }
    }
    return (reached & set) == set;
  }

  // ---- options, orders

  int option(int wire, int set) {
    if (!in(wire, 0, wires.size() - 1)) return UNKNOWN;
    if (!in(set, 0, 255)) return OUTSIDE;
    int was = wires.get(wire).options;
    wires.get(wire).options = set;
    return was;
  }

  int order(int set, int pieces) {
    if (!in(set, 0, 255) || !in(pieces, 1, 1000)) return OUTSIDE;
    if (orders.size() == 8) return FULL;
    orders.add(new Order(set, pieces));
    return orders.size() - 1;
  }

  int setup(int n) {
    if (!in(n, 0, 100000)) return OUTSIDE;
    int was = setup;
    setup = n;
    return was;
  }

  int weight(int set) {
    int sum = 0;
    for (int bit = 0; bit < 32; bit++) {
      if ((set >>> bit & 1) == 1 && bit >= orders.size()) return UNKNOWN;
    }
    for (Wire w : wires) {
      boolean needed = false;
      for (int i = 0; i < orders.size(); i++) {
        if ((set >> i & 1) == 1) needed |= needs(orders.get(i), w);
      }
      if (needed) sum += w.thickness;
    }
    return sum;
  }

  long best() {
    return costOf(bestPlan());
  }

  int loom(int order) {
    if (!in(order, 0, orders.size() - 1)) return UNKNOWN;
    return bestPlan()[order];
  }

  int alike() {
    int found = 0;
    for (int i = 0; i < orders.size(); i++) {
      boolean twin = false;
      for (int j = 0; j < orders.size(); j++) {
        boolean same = i != j;
        for (Wire w : wires) same &= needs(orders.get(i), w) == needs(orders.get(j), w);
        twin |= same;
      }
      if (twin) found++;
    }
    return found;
  }

  private static boolean needs(Order order, Wire wire) {
    return (wire.options | order.set) == order.set;
  }

  private int[] bestPlan() {
    List<int[]> all = new ArrayList<>();
    plans(new int[orders.size()], 0, 0, all);
    int[] best = null;
    for (int[] plan : all) {
      if (best == null || isBetter(plan, best)) best = plan;
    }
    return best;
  }

  private static void plans(int[] plan, int order, int looms, List<int[]> all) {
    if (order == plan.length) {
      all.add(plan.clone());
      return;
    }
    for (int loom = 0; loom <= looms; loom++) {
      plan[order] = loom;
      plans(plan, order + 1, Math.max(looms, loom + 1), all);
    }
  }

  private boolean isBetter(int[] plan, int[] than) {
    if (costOf(plan) != costOf(than)) return costOf(plan) < costOf(than);
    if (loomsOf(plan) != loomsOf(than)) return loomsOf(plan) < loomsOf(than);
    for (int i = 0; i < plan.length; i++) {
      if (plan[i] != than[i]) return plan[i] < than[i];
    }
    return false;
  }

  private static int loomsOf(int[] plan) {
    int looms = 0;
    for (int loom : plan) looms = Math.max(looms, loom + 1);
    return looms;
  }

  private long costOf(int[] plan) {
    long cost = 0;
    for (int loom = 0; loom < loomsOf(plan); loom++) {
      int set = 0;
      int pieces = 0;
      for (int i = 0; i < plan.length; i++) {
        if (plan[i] == loom) {
          set |= 1 << i;
          pieces += orders.get(i).pieces;
        }
      }
      cost += setup + (long) pieces * weight(set);
    }
    return cost;
  }

  // ---- tests

  int pin(int pin, int net) {
    if (!in(pin, 0, 15) || !in(net, 0, 7)) return UNKNOWN;
    int was = nets[pin];
    nets[pin] = net;
    return was;
  }

  int tests() {
    int tests = 0;
    for (int one : nets) {
      for (int other : nets) {
        for (int bit = 0; bit < 3; bit++) {
          if ((one >> bit & 1) != (other >> bit & 1)) tests = Math.max(tests, bit + 1);
        }
      }
    }
    return tests;
  }

  int side(int test, int pin) {
    if (!in(pin, 0, 15)) return UNKNOWN;
    if (!in(test, 0, tests() - 1)) return OUTSIDE;
    return nets[pin] >> test & 1;
  }

  int shows(int one, int other) {
    if (!hasPins(one) || !hasPins(other)) return UNKNOWN;
    if (one == other) return STATE;
    int shown = 0;
    for (int test = 0; test < tests(); test++) {
      if ((one >> test & 1) != (other >> test & 1)) shown |= 1 << test;
    }
    return shown;
  }

  int pairs(int tests) {
    int found = 0;
    for (int one = 0; one < 8; one++) {
      for (int other = 0; other < one; other++) {
        if (hasPins(one) && hasPins(other) && shows(one, other) == tests) found++;
      }
    }
    return found;
  }

  int count(int what) {
    int laid = 0;
    int lengths = 0;
    int used = 0;
    for (Wire w : wires) {
      if (w.way != null) {
        laid++;
        lengths += lengthOf(w.way);
      }
    }
    for (int net = 0; net < 8; net++) used += hasPins(net) ? 1 : 0;
    int[] counts = {ducts.size(), wires.size(), laid, orders.size(), used, lengths};
    return in(what, 0, 5) ? counts[what] : OUTSIDE;
  }

  private boolean hasPins(int net) {
    for (int n : nets) {
      if (n == net) return true;
    }
    return false;
  }

  // ---- ways

  private static boolean in(int n, int least, int most) {
    return n >= least && n <= most;
  }

  private List<List<Integer>> ways(int from, int to) {
    List<List<Integer>> found = new ArrayList<>();
    goOn(from, to, 1 << from, new ArrayList<>(), found);
    return found;
  }

  private void goOn(int at, int to, int seen, List<Integer> way, List<List<Integer>> found) {
    if (at == to) {
      found.add(new ArrayList<>(way));
      return;
    }
    for (int d = 0; d < ducts.size(); d++) {
      if (!ducts.get(d).touches(at)) continue;
      int next = ducts.get(d).a + ducts.get(d).b - at;
      if ((seen >> next & 1) == 1) continue;
      way.add(d);
      goOn(next, to, seen | 1 << next, way, found);
      way.remove(way.size() - 1);
    }
  }

  private boolean mayGo(Wire wire, List<Integer> way) {
    for (int duct : way) {
      int load = wire.thickness;
      for (Wire w : beside(duct)) {
        load += w.thickness;
        if (apart[w.kind][wire.kind]) return false;
      }
      if (load > ducts.get(duct).room) return false;
    }
    return true;
  }

  private List<Wire> beside(int duct) {
    List<Wire> found = new ArrayList<>();
    for (Wire w : wires) {
      if (w.way != null && w.way.contains(duct)) found.add(w);
    }
    return found;
  }

  private boolean isShorter(List<Integer> way, List<Integer> than) {
    if (lengthOf(way) != lengthOf(than)) return lengthOf(way) < lengthOf(than);
    if (way.size() != than.size()) return way.size() < than.size();
    for (int i = 0; i < way.size(); i++) {
      if (!way.get(i).equals(than.get(i))) return way.get(i) < than.get(i);
    }
    return false;
  }

  private int lengthOf(List<Integer> way) {
    int sum = 0;
    for (int duct : way) sum += ducts.get(duct).length;
    return sum;
  }

  private static int bitsOf(List<Integer> way) {
    int bits = 0;
    for (int duct : way) bits |= 1 << duct;
    return bits;
  }
}
