/**
 * Promises 1 to 4, and the bounds of ducts, wires and classes: a test for each sentence that names a
 * boundary case. That refused calls change nothing stands in RefusedTest.
 */
public final class BoundsDuctsTest {
  private static final Check CHECK = new Check();
  private static final int UNKNOWN = -1;
  private static final int OUTSIDE = -2;
  private static final int STATE = -3;
  private static final int FULL = -4;
  private static final int NONE = -9;

  private static void due(String call, long got, long want) {
    CHECK.due(call, got, want);
  }

  public static void main(String[] args) {
    newHasNoDucts();
    newHasNoWires();
    newHasNoOrders();
    newHasNoClassesApart();
    newObjectsShareNothing();
    ductPlacesTaken();
    ductPlacesRefused();
    ductLength();
    ductRoom();
    ductBothAreOne();
    ductFull();
    ductFirstRefusal();
    ductRefusedTakesNoNumber();
    wirePlacesTaken();
    wirePlacesRefused();
    wireThickness();
    wireClass();
    wireBothAreOne();
    wireFull();
    wireFirstRefusal();
    wireRefusedTakesNoNumber();
    wireIsNotLaidAtFirst();
    apartClasses();
    apartBothAreOne();
    apartFirstRefusal();
    apartWhetherTheyWere();
    apartLaidStay();
    CHECK.end();
  }

  // ---- promise 1

  private static void newHasNoDucts() {
    CHECK.sentence("1: No DUCTS");
    CableLooms x = new CableLooms();
    due("count(0)", x.count(0), 0);
    for (int duct : Numbers.not(0, -1)) {
      due("left(" + duct + ", false)", x.left(duct, false), UNKNOWN);
      due("left(" + duct + ", true)", x.left(duct, true), UNKNOWN);
    }
    for (int a = 0; a < 10; a++) {
      for (int b = 0; b < 10; b++) {
        due("far(" + a + ", " + b + ")", x.far(a, b), a == b ? STATE : NONE);
        due("two(" + a + ", " + b + ")", x.two(a, b), a == b ? STATE : NONE);
      }
    }
    due("net(3)", x.net(3), NONE);
    due("net(1023)", x.net(1023), NONE);
    due("splice(3)", x.splice(3), NONE);
    due("splice(1023)", x.splice(1023), NONE);
    due("the first duct", x.duct(0, 1, 1, 1), 0);
  }

  private static void newHasNoWires() {
    CHECK.sentence("1: No WIRES");
    CableLooms x = new CableLooms();
    due("count(1)", x.count(1), 0);
    due("count(2)", x.count(2), 0);
    due("count(5)", x.count(5), 0);
    due("clashes()", x.clashes(), 0);
    for (int wire : Numbers.not(0, -1)) {
      due("lay(" + wire + ")", x.lay(wire), UNKNOWN);
      due("lift(" + wire + ")", x.lift(wire), UNKNOWN);
      due("way(" + wire + ", 0)", x.way(wire, 0), UNKNOWN);
      due("length(" + wire + ")", x.length(wire), UNKNOWN);
      due("loss(" + wire + ", 1)", x.loss(wire, 1), UNKNOWN);
      due("option(" + wire + ", 0)", x.option(wire, 0), UNKNOWN);
    }
    due("the first wire", x.wire(0, 1, 1, 0), 0);
  }

  private static void newHasNoOrders() {
    CHECK.sentence("1: No ORDERS");
    CableLooms x = new CableLooms();
    due("count(3)", x.count(3), 0);
    due("best()", x.best(), 0);
    due("alike()", x.alike(), 0);
    due("weight(0)", x.weight(0), 0);
    for (int bit = 0; bit < 32; bit++) {
      due("weight(1 << " + bit + ")", x.weight(1 << bit), UNKNOWN);
    }
    for (int order : Numbers.not(0, -1)) {
      due("loom(" + order + ")", x.loom(order), UNKNOWN);
    }
    due("the first order", x.order(0, 1), 0);
  }

  private static void newHasNoClassesApart() {
    CHECK.sentence("1: no CLASSES APART");
    CableLooms x = new CableLooms();
    x.duct(0, 1, 1, 4);
    for (int kind = 0; kind < 4; kind++) {
      x.wire(0, 1, 1, kind);
      due("a wire of class " + kind, x.lay(kind), 1);
    }
    due("clashes()", x.clashes(), 0);
    for (int one = 0; one < 4; one++) {
      for (int other = 0; other < 4; other++) {
        if (one != other) {
          due("apart(" + one + ", " + other + ", false)", x.apart(one, other, false), 0);
        }
      }
    }
  }

  private static void newObjectsShareNothing() {
    CHECK.sentence("1: A new object");
    CableLooms x = new CableLooms();
    x.duct(0, 1, 1, 1);
    x.wire(0, 1, 1, 0);
    x.lay(0);
    x.order(0, 1);
    x.apart(0, 1, true);
    x.setup(5);
    x.pin(0, 7);
    CableLooms y = new CableLooms();
    int[] counts = {0, 0, 0, 0, 1, 0};
    for (int what = 0; what < 6; what++) {
      due("count(" + what + ")", y.count(what), counts[what]);
    }
    due("apart(0, 1, false)", y.apart(0, 1, false), 0);
    due("setup(0)", y.setup(0), 1000);
    due("pin(0, 1)", y.pin(0, 1), 0);
    due("of the first object", x.pin(0, 7), 7);
    due("of the first object", x.setup(5), 5);
  }

  // ---- promise 2

  private static void ductPlacesTaken() {
    CHECK.sentence("2: a DUCT between two unlike PLACES 0 .. 9");
    for (int a = 0; a < 10; a++) {
      CableLooms x = new CableLooms();
      int made = 0;
      for (int b = 0; b < 10; b++) {
        if (a != b) {
          due("duct(" + a + ", " + b + ", 1, 1)", x.duct(a, b, 1, 1), made);
          due("far(" + b + ", " + a + ")", x.far(b, a), 1);
          made++;
        }
      }
    }
  }

  private static void ductPlacesRefused() {
    CHECK.sentence("2: UNKNOWN: places");
    CableLooms x = new CableLooms();
    for (int place : Numbers.not(0, 9)) {
      due("duct(" + place + ", 0, 1, 1)", x.duct(place, 0, 1, 1), UNKNOWN);
      due("duct(9, " + place + ", 1, 1)", x.duct(9, place, 1, 1), UNKNOWN);
    }
    due("count(0)", x.count(0), 0);
  }

  private static void ductLength() {
    CHECK.sentence("2: OUTSIDE; a LENGTH (1 to 99)");
    CableLooms x = new CableLooms();
    for (int length : Numbers.not(1, 99)) {
      due("duct(0, 1, " + length + ", 1)", x.duct(0, 1, length, 1), OUTSIDE);
    }
    due("the greatest", x.duct(0, 1, 99, 1), 0);
    due("its length", x.far(0, 1), 99);
    due("the least", x.duct(0, 1, 1, 1), 1);
    due("its length", x.far(0, 1), 1);
  }

  private static void ductRoom() {
    CHECK.sentence("2: OUTSIDE; a ROOM (1 to 300)");
    CableLooms x = new CableLooms();
    for (int room : Numbers.not(1, 300)) {
      due("duct(0, 1, 1, " + room + ")", x.duct(0, 1, 1, room), OUTSIDE);
    }
    due("the least", x.duct(0, 1, 1, 1), 0);
    due("its room", x.left(0, false), 1);
    due("the greatest", x.duct(0, 1, 1, 300), 1);
    due("its room", x.left(1, false), 300);
  }

  private static void ductBothAreOne() {
    CHECK.sentence("2: STATE: both are one");
    CableLooms x = new CableLooms();
    for (int place = 0; place < 10; place++) {
      due("duct(" + place + ", " + place + ", 1, 1)", x.duct(place, place, 1, 1), STATE);
    }
    due("count(0)", x.count(0), 0);
  }

  private static void ductFull() {
    CHECK.sentence("2: FULL: 16");
    CableLooms x = new CableLooms();
    for (int i = 0; i < 16; i++) {
      due("count(0)", x.count(0), i);
      due("left(" + i + ", false)", x.left(i, false), UNKNOWN);
      due("duct " + i, x.duct(0, 1, 99 - i, 1 + i), i);
      due("left(" + i + ", false)", x.left(i, false), 1 + i);
    }
    for (int i = 0; i < 3; i++) {
      due("duct 16", x.duct(0, 1, 1, 300), FULL);
      due("count(0)", x.count(0), 16);
      due("left(16, false)", x.left(16, false), UNKNOWN);
    }
    due("no shorter one has come", x.far(0, 1), 84);
    for (int i = 0; i < 16; i++) {
      due("left(" + i + ", false)", x.left(i, false), 1 + i);
    }
  }

  private static void ductFirstRefusal() {
    CHECK.sentence("2: of several the first that a call names");
    CableLooms x = new CableLooms();
    for (int i = 0; i < 17; i++) {
      // The first rounds have room for more, the last one is full.
      due("unknown, outside", x.duct(-1, 0, 0, 1), UNKNOWN);
      due("unknown, outside", x.duct(0, 10, 1, 301), UNKNOWN);
      due("unknown, state", x.duct(10, 10, 1, 1), UNKNOWN);
      due("unknown, state", x.duct(-1, -1, 1, 1), UNKNOWN);
      due("outside, state", x.duct(3, 3, 100, 1), OUTSIDE);
      due("outside, state", x.duct(3, 3, 1, 0), OUTSIDE);
      due("outside", x.duct(0, 1, 0, 1), OUTSIDE);
      due("outside", x.duct(0, 1, 1, 301), OUTSIDE);
      due("unknown", x.duct(0, 10, 1, 1), UNKNOWN);
      due("state", x.duct(3, 3, 1, 1), STATE);
      due("full or taken", x.duct(0, 1, 1, 1), i < 16 ? i : FULL);
    }
  }

  private static void ductRefusedTakesNoNumber() {
    CHECK.sentence("2: A DUCT: its number");
    CableLooms x = new CableLooms();
    for (int i = 0; i < 16; i++) {
      x.duct(0, 10, 1, 1);
      x.duct(0, 1, 0, 1);
      x.duct(0, 0, 1, 1);
      due("duct after refusals", x.duct(i % 10, (i + 1) % 10, 1 + i, 1), i);
    }
    due("count(0)", x.count(0), 16);
  }

  // ---- promise 3

  private static void wirePlacesTaken() {
    CHECK.sentence("3: a WIRE from a PLACE 0 .. 9 to an unlike one");
    for (int from = 0; from < 10; from++) {
      CableLooms x = new CableLooms();
      int made = 0;
      for (int to = 0; to < 10; to++) {
        if (from != to) {
          x.duct(to, from, 1 + to, 1);
          due("wire(" + from + ", " + to + ", 1, 0)", x.wire(from, to, 1, 0), made);
          due("lay(" + made + ")", x.lay(made), 1 + to);
          made++;
        }
      }
    }
  }

  private static void wirePlacesRefused() {
    CHECK.sentence("3: UNKNOWN: places");
    CableLooms x = new CableLooms();
    for (int place : Numbers.not(0, 9)) {
      due("wire(" + place + ", 0, 1, 0)", x.wire(place, 0, 1, 0), UNKNOWN);
      due("wire(9, " + place + ", 1, 0)", x.wire(9, place, 1, 0), UNKNOWN);
    }
    due("count(1)", x.count(1), 0);
  }

  private static void wireThickness() {
    CHECK.sentence("3: OUTSIDE: thickness (1 to 50)");
    CableLooms x = new CableLooms();
    for (int thickness : Numbers.not(1, 50)) {
      due("wire(0, 1, " + thickness + ", 0)", x.wire(0, 1, thickness, 0), OUTSIDE);
    }
    x.duct(0, 1, 1, 100);
    due("the least", x.wire(0, 1, 1, 0), 0);
    x.lay(0);
    due("its thickness", x.left(0, false), 99);
    due("the greatest", x.wire(0, 1, 50, 0), 1);
    x.lay(1);
    due("its thickness", x.left(0, false), 49);
  }

  private static void wireClass() {
    CHECK.sentence("3: OUTSIDE: class (0 to 3)");
    CableLooms x = new CableLooms();
    for (int kind : Numbers.not(0, 3)) {
      due("wire(0, 1, 1, " + kind + ")", x.wire(0, 1, 1, kind), OUTSIDE);
    }
    due("the least", x.wire(0, 1, 1, 0), 0);
    due("the greatest", x.wire(0, 1, 1, 3), 1);
    x.duct(0, 1, 1, 100);
    x.apart(0, 3, true);
    due("lay(0)", x.lay(0), 1);
    due("its class is apart", x.lay(1), NONE);
  }

  private static void wireBothAreOne() {
    CHECK.sentence("3: STATE: both are one");
    CableLooms x = new CableLooms();
    for (int place = 0; place < 10; place++) {
      due("wire(" + place + ", " + place + ", 1, 0)", x.wire(place, place, 1, 0), STATE);
    }
    due("count(1)", x.count(1), 0);
  }

  private static void wireFull() {
    CHECK.sentence("3: FULL: 20");
    CableLooms x = new CableLooms();
    x.duct(0, 1, 7, 300);
    for (int i = 0; i < 20; i++) {
      due("count(1)", x.count(1), i);
      due("lay(" + i + ")", x.lay(i), UNKNOWN);
      due("wire " + i, x.wire(0, 1, 15, i % 4), i);
      due("lay(" + i + ")", x.lay(i), 7);
    }
    for (int i = 0; i < 3; i++) {
      due("wire 20", x.wire(0, 1, 1, 0), FULL);
      due("count(1)", x.count(1), 20);
      due("lay(20)", x.lay(20), UNKNOWN);
    }
    due("all are laid", x.count(2), 20);
    due("none of them has grown", x.left(0, false), 0);
  }

  private static void wireFirstRefusal() {
    CHECK.sentence("3: of several the first that a call names");
    CableLooms x = new CableLooms();
    for (int i = 0; i < 21; i++) {
      due("unknown, outside", x.wire(-1, 0, 0, 0), UNKNOWN);
      due("unknown, outside", x.wire(0, 10, 1, 4), UNKNOWN);
      due("unknown, state", x.wire(10, 10, 1, 0), UNKNOWN);
      due("unknown, state", x.wire(-1, -1, 1, 0), UNKNOWN);
      due("outside, state", x.wire(3, 3, 51, 0), OUTSIDE);
      due("outside, state", x.wire(3, 3, 1, -1), OUTSIDE);
      due("outside", x.wire(0, 1, 0, 0), OUTSIDE);
      due("outside", x.wire(0, 1, 1, 4), OUTSIDE);
      due("unknown", x.wire(0, 10, 1, 0), UNKNOWN);
      due("state", x.wire(3, 3, 1, 0), STATE);
      due("full or taken", x.wire(0, 1, 1, 0), i < 20 ? i : FULL);
    }
  }

  private static void wireRefusedTakesNoNumber() {
    CHECK.sentence("3: A WIRE: its number");
    CableLooms x = new CableLooms();
    for (int i = 0; i < 20; i++) {
      x.wire(0, 10, 1, 0);
      x.wire(0, 1, 51, 0);
      x.wire(0, 0, 1, 0);
      due("wire after refusals", x.wire(i % 10, (i + 1) % 10, 1 + i, i % 4), i);
    }
    due("count(1)", x.count(1), 20);
  }

  private static void wireIsNotLaidAtFirst() {
    CHECK.sentence("3: LAID or not (as at first)");
    CableLooms x = new CableLooms();
    x.duct(0, 1, 1, 300);
    for (int wire = 0; wire < 20; wire++) {
      x.wire(0, 1, 1, 0);
      due("length(" + wire + ")", x.length(wire), NONE);
      due("way(" + wire + ", 0)", x.way(wire, 0), NONE);
      due("lift(" + wire + ")", x.lift(wire), STATE);
      due("option(" + wire + ", 0), none at first", x.option(wire, 0), 0);
    }
    due("count(2)", x.count(2), 0);
    due("left(0, true)", x.left(0, true), 0);
    due("left(0, false)", x.left(0, false), 300);
  }

  // ---- promise 4

  private static void apartClasses() {
    CHECK.sentence("4: Two CLASSES (0 to 3); OUTSIDE");
    CableLooms x = new CableLooms();
    for (int kind : Numbers.not(0, 3)) {
      due("apart(" + kind + ", 1, true)", x.apart(kind, 1, true), OUTSIDE);
      due("apart(1, " + kind + ", true)", x.apart(1, kind, true), OUTSIDE);
      due("apart(" + kind + ", 1, false)", x.apart(kind, 1, false), OUTSIDE);
      due("apart(1, " + kind + ", false)", x.apart(1, kind, false), OUTSIDE);
    }
    for (int one = 0; one < 4; one++) {
      for (int other = 0; other < 4; other++) {
        if (one != other) {
          due("apart(" + one + ", " + other + ")", x.apart(one, other, true), one < other ? 0 : 1);
        }
      }
    }
  }

  private static void apartBothAreOne() {
    CHECK.sentence("4: STATE: both are one; APART (two unlike ones)");
    CableLooms x = new CableLooms();
    x.duct(0, 1, 1, 300);
    for (int kind = 0; kind < 4; kind++) {
      due("apart(" + kind + ", " + kind + ", true)", x.apart(kind, kind, true), STATE);
      due("apart(" + kind + ", " + kind + ", false)", x.apart(kind, kind, false), STATE);
      due("apart(" + kind + ", " + kind + ", true)", x.apart(kind, kind, true), STATE);
      x.wire(0, 1, 1, kind);
      x.wire(0, 1, 1, kind);
      due("one of class " + kind, x.lay(2 * kind), 1);
      due("beside its like", x.lay(2 * kind + 1), 1);
    }
    due("clashes()", x.clashes(), 0);
  }

  private static void apartFirstRefusal() {
    CHECK.sentence("4: of several the first that a call names");
    CableLooms x = new CableLooms();
    for (int kind : Numbers.not(0, 3)) {
      due("outside, state", x.apart(kind, kind, true), OUTSIDE);
    }
  }

  private static void apartWhetherTheyWere() {
    CHECK.sentence("4: whether they were: 1, 0");
    for (int one = 0; one < 4; one++) {
      for (int other = 0; other < 4; other++) {
        if (one != other) {
          apartOneAlone(one, other);
        }
      }
    }
  }

  private static void apartOneAlone(int one, int other) {
    String pair = one + ", " + other;
    CableLooms x = new CableLooms();
    due(pair + " not yet, and not to be", x.apart(one, other, false), 0);
    due(pair + " not yet", x.apart(one, other, true), 0);
    due(pair + " already", x.apart(one, other, true), 1);
    due(pair + " the other way round", x.apart(other, one, true), 1);
    for (int a = 0; a < 4; a++) {
      for (int b = a + 1; b < 4; b++) {
        boolean same = a == Math.min(one, other) && b == Math.max(one, other);
        due(pair + " and " + a + ", " + b, x.apart(a, b, same), same ? 1 : 0);
      }
    }
    due(pair + " no more", x.apart(other, one, false), 1);
    due(pair + " already not", x.apart(one, other, false), 0);
    due(pair + " already not", x.apart(other, one, true), 0);
  }

  private static void apartLaidStay() {
    CHECK.sentence("4: (WIRES that are LAID stay.)");
    CableLooms x = new CableLooms();
    x.duct(0, 1, 5, 100);
    x.duct(0, 1, 6, 100);
    x.wire(0, 1, 10, 0);
    x.wire(0, 1, 10, 1);
    x.lay(0);
    x.lay(1);
    due("apart", x.apart(0, 1, true), 0);
    for (int wire = 0; wire < 2; wire++) {
      due("length(" + wire + ")", x.length(wire), 5);
      due("way(" + wire + ", 0)", x.way(wire, 0), 0);
    }
    due("left(0, true)", x.left(0, true), 2);
    due("left(0, false)", x.left(0, false), 80);
    due("count(2)", x.count(2), 2);
    due("lift(0)", x.lift(0), 5);
    due("once lifted it goes beside", x.lay(0), 6);
    due("apart no more", x.apart(1, 0, false), 1);
    due("it stays there", x.way(0, 0), 1);
  }
}
