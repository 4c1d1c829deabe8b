/** Promises 23 to 28: pins, tests of shorts, and counts. */
public final class PinsTest {
  private static final Check CHECK = new Check();
  private static final int MIN = Integer.MIN_VALUE;
  private static final int MAX = Integer.MAX_VALUE;

  private static void due(String call, long got, long want) {
    CHECK.due(call, got, want);
  }

  public static void main(String[] args) {
    promise23Pin();
    promise24Tests();
    promise25Side();
    promise26Shows();
    promise27Pairs();
    promise28Count();
    CHECK.end();
  }

  private static CableLooms withAllPinsIn(int net) {
    CableLooms x = new CableLooms();
    for (int pin = 0; pin < 16; pin++) {
      x.pin(pin, net);
    }
    return x;
  }

  private static void promise23Pin() {
    CableLooms x = new CableLooms();
    int[] notPins = {-1, 16, MIN, MAX};
    for (int pin : notPins) {
      due("23: pin", x.pin(pin, 0), CableLooms.UNKNOWN);
    }
    int[] notNets = {-1, 8, MIN, MAX};
    for (int net : notNets) {
      due("23: net", x.pin(0, net), CableLooms.UNKNOWN);
    }
    due("23: at first", x.pin(15, 7), 0);
    due("23: what it was", x.pin(15, 3), 7);
    due("23: other pins", x.pin(0, 1), 0);
    due("23: the same", x.pin(15, 3), 3);
    due("23: refused changes nothing", x.pin(0, 8), CableLooms.UNKNOWN);
    due("23: refused changes nothing", x.pin(0, 0), 1);
  }

  private static void promise24Tests() {
    CableLooms x = new CableLooms();
    due("24: one net", x.tests(), 0);
    x.pin(15, 1);
    due("24: bit 0", x.tests(), 1);
    x.pin(15, 2);
    due("24: bit 1", x.tests(), 2);
    x.pin(14, 3);
    due("24: bits 0 and 1", x.tests(), 2);
    x.pin(14, 4);
    due("24: bit 2", x.tests(), 3);

    CableLooms y = withAllPinsIn(7);
    due("24: one net that is not 0", y.tests(), 0);
    y.pin(3, 6);
    due("24: unlike in bit 0 alone", y.tests(), 1);
    y.pin(4, 5);
    due("24: unlike in bits 0 and 1", y.tests(), 2);
    y.pin(0, 3);
    due("24: unlike in bit 2", y.tests(), 3);
  }

  private static void promise25Side() {
    CableLooms x = withAllPinsIn(4);
    due("25: no tests", x.side(0, 0), CableLooms.OUTSIDE);
    x.pin(1, 6);
    x.pin(2, 5);
    int[] notPins = {-1, 16, MIN, MAX};
    for (int pin : notPins) {
      due("25: pin", x.side(0, pin), CableLooms.UNKNOWN);
      due("25: unknown ahead of outside", x.side(9, pin), CableLooms.UNKNOWN);
    }
    int[] notTests = {-1, 2, 3, 32, MIN, MAX};
    for (int test : notTests) {
      due("25: test", x.side(test, 0), CableLooms.OUTSIDE);
    }
    due("25: net 4, bit 0", x.side(0, 0), 0);
    due("25: net 6, bit 0", x.side(0, 1), 0);
    due("25: net 5, bit 0", x.side(0, 2), 1);
    due("25: net 4, bit 1", x.side(1, 15), 0);
    due("25: net 6, bit 1", x.side(1, 1), 1);
    due("25: net 5, bit 1", x.side(1, 2), 0);
    x.pin(3, 0);
    due("25: net 4, bit 2", x.side(2, 0), 1);
    due("25: net 0, bit 2", x.side(2, 3), 0);
  }

  private static void promise26Shows() {
    CableLooms x = new CableLooms();
    x.pin(1, 7);
    x.pin(2, 5);
    int[] notNets = {-1, 8, 32, 1, 6, MIN, MAX};
    for (int net : notNets) {
      due("26: no pins", x.shows(net, 0), CableLooms.UNKNOWN);
      due("26: no pins", x.shows(0, net), CableLooms.UNKNOWN);
      due("26: unknown ahead of state", x.shows(net, net), CableLooms.UNKNOWN);
    }
    due("26: both are one", x.shows(7, 7), CableLooms.STATE);
    due("26: all", x.shows(0, 7), 7);
    due("26: bits 0 and 2", x.shows(5, 0), 5);
    due("26: bit 1", x.shows(5, 7), 2);
    x.pin(2, 0);
    due("26: pins have left", x.shows(5, 7), CableLooms.UNKNOWN);
  }

  private static void promise27Pairs() {
    CableLooms x = new CableLooms();
    for (int tests = 0; tests < 9; tests++) {
      due("27: one net", x.pairs(tests), 0);
    }
    for (int pin = 0; pin < 16; pin++) {
      x.pin(pin, pin % 8);
    }
    due("27: in none", x.pairs(0), 0);
    for (int tests = 1; tests < 8; tests++) {
      due("27: all nets", x.pairs(tests), 4);
    }
    int[] noTests = {8, 9, 15, -1, MIN, MAX};
    for (int tests : noTests) {
      due("27: no such tests", x.pairs(tests), 0);
    }
    x.pin(0, 1);
    due("27: still in net 0", x.pairs(1), 4);
    x.pin(8, 1);
    due("27: net 0 has no pins", x.pairs(1), 3);
    due("27: net 0 has no pins", x.pairs(6), 3);
  }

  private static void promise28Count() {
    CableLooms x = new CableLooms();
    int[] wrong = {-1, 6, MIN, MAX};
    for (int what : wrong) {
      due("28: outside", x.count(what), CableLooms.OUTSIDE);
    }
    x.duct(0, 1, 5, 30);
    x.duct(1, 2, 7, 30);
    x.wire(0, 2, 10, 0);
    x.wire(0, 1, 10, 0);
    x.wire(1, 2, 10, 0);
    x.wire(5, 6, 10, 0);
    x.order(0, 1);
    x.pin(0, 3);
    x.pin(1, 3);
    x.pin(2, 7);
    for (int wire = 0; wire < 4; wire++) {
      x.lay(wire);
    }
    due("28: ducts", x.count(0), 2);
    due("28: wires", x.count(1), 4);
    due("28: laid", x.count(2), 3);
    due("28: orders", x.count(3), 1);
    due("28: nets", x.count(4), 3);
    due("28: lengths", x.count(5), 24);
    x.lift(0);
    x.pin(2, 0);
    due("28: laid", x.count(2), 2);
    due("28: lengths", x.count(5), 12);
    due("28: nets", x.count(4), 2);
  }
}
