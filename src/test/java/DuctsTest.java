/** Promises 1 to 11: a new object, ducts, wires, classes apart, laying and lifting. */
public final class DuctsTest {
  private static final Check CHECK = new Check();
  private static final int MIN = Integer.MIN_VALUE;
  private static final int MAX = Integer.MAX_VALUE;

  private static void due(String call, long got, long want) {
    CHECK.due(call, got, want);
  }

  public static void main(String[] args) {
    promise1NewObject();
    promise2Duct();
    promise2DuctsBetweenTheSamePlaces();
    promise3Wire();
    promise4Apart();
    promise5LayRefuses();
    promise5LayByLengthThenDuctsThenNumbers();
    promise5LayRowRunsFromTheWiresStart();
    promise5LayWithRoomAndClasses();
    promise5LayTheLongestWay();
    promise6Lift();
    promise7Way();
    promise8Length();
    promise9Left();
    promise10Loss();
    promise11Clashes();
    CHECK.end();
  }

  private static void promise1NewObject() {
    CableLooms x = new CableLooms();
    due("1: ducts", x.count(0), 0);
    due("1: wires", x.count(1), 0);
    due("1: laid", x.count(2), 0);
    due("1: orders", x.count(3), 0);
    due("1: nets", x.count(4), 1);
    due("1: lengths", x.count(5), 0);
    due("1: clashes", x.clashes(), 0);
    due("1: best", x.best(), 0);
    due("1: setup", x.setup(1), 1000);
    for (int one = 0; one < 4; one++) {
      for (int other = 0; other < 4; other++) {
        due("1: apart", x.apart(one, other, false), one == other ? CableLooms.STATE : 0);
      }
    }
    for (int pin = 0; pin < 16; pin++) {
      due("1: pin", x.pin(pin, 0), 0);
    }
    CableLooms y = new CableLooms();
    x.duct(0, 1, 1, 1);
    due("1: objects share nothing", y.count(0), 0);
  }

  private static void promise2Duct() {
    CableLooms x = new CableLooms();
    int[] notPlaces = {-1, 10, MIN, MAX};
    for (int place : notPlaces) {
      due("2: a", x.duct(place, 0, 1, 1), CableLooms.UNKNOWN);
      due("2: b", x.duct(0, place, 1, 1), CableLooms.UNKNOWN);
      due("2: unknown ahead of outside and state", x.duct(place, place, 0, 0), CableLooms.UNKNOWN);
    }
    int[] notLengths = {0, -1, 100, MIN, MAX};
    for (int length : notLengths) {
      due("2: length", x.duct(0, 1, length, 1), CableLooms.OUTSIDE);
      due("2: outside ahead of state", x.duct(1, 1, length, 1), CableLooms.OUTSIDE);
    }
    int[] notRooms = {0, -1, 301, MIN, MAX};
    for (int room : notRooms) {
      due("2: room", x.duct(0, 1, 1, room), CableLooms.OUTSIDE);
      due("2: outside ahead of state", x.duct(1, 1, 1, room), CableLooms.OUTSIDE);
    }
    due("2: both are one", x.duct(9, 9, 1, 1), CableLooms.STATE);
    due("2: refused changes nothing", x.count(0), 0);
    due("2: least", x.duct(0, 9, 1, 1), 0);
    due("2: most", x.duct(9, 0, 99, 300), 1);
    due("2: room of the first", x.left(0, false), 1);
    due("2: room of the second", x.left(1, false), 300);
    for (int i = 2; i < 16; i++) {
      due("2: number", x.duct(i % 10, (i + 1) % 10, i, i), i);
    }
    due("2: full", x.duct(0, 1, 1, 1), CableLooms.FULL);
    due("2: state ahead of full", x.duct(1, 1, 1, 1), CableLooms.STATE);
    due("2: outside ahead of full", x.duct(0, 1, 0, 1), CableLooms.OUTSIDE);
    due("2: unknown ahead of full", x.duct(0, 10, 1, 1), CableLooms.UNKNOWN);
    due("2: sixteen", x.count(0), 16);
  }

  private static void promise2DuctsBetweenTheSamePlaces() {
    CableLooms x = new CableLooms();
    due("2: first", x.duct(0, 1, 7, 10), 0);
    due("2: beside it", x.duct(1, 0, 7, 10), 1);
    due("2: shorter", x.duct(0, 1, 6, 10), 2);
    due("2: far", x.far(0, 1), 6);
    due("2: two", x.two(0, 1), 13);
  }

  private static void promise3Wire() {
    CableLooms x = new CableLooms();
    int[] notPlaces = {-1, 10, MIN, MAX};
    for (int place : notPlaces) {
      due("3: from", x.wire(place, 0, 1, 0), CableLooms.UNKNOWN);
      due("3: to", x.wire(0, place, 1, 0), CableLooms.UNKNOWN);
      due("3: unknown first", x.wire(place, place, 0, 9), CableLooms.UNKNOWN);
    }
    int[] notThicknesses = {0, -1, 51, MIN, MAX};
    for (int thickness : notThicknesses) {
      due("3: thickness", x.wire(0, 1, thickness, 0), CableLooms.OUTSIDE);
      due("3: outside ahead of state", x.wire(1, 1, thickness, 0), CableLooms.OUTSIDE);
    }
    int[] notKinds = {-1, 4, MIN, MAX};
    for (int kind : notKinds) {
      due("3: class", x.wire(0, 1, 1, kind), CableLooms.OUTSIDE);
      due("3: outside ahead of state", x.wire(1, 1, 1, kind), CableLooms.OUTSIDE);
    }
    due("3: both are one", x.wire(3, 3, 1, 0), CableLooms.STATE);
    due("3: refused changes nothing", x.count(1), 0);
    due("3: least", x.wire(0, 9, 1, 0), 0);
    due("3: most", x.wire(9, 0, 50, 3), 1);
    for (int i = 2; i < 20; i++) {
      due("3: number", x.wire(0, 1, 1, 0), i);
    }
    due("3: full", x.wire(0, 1, 1, 0), CableLooms.FULL);
    due("3: state ahead of full", x.wire(1, 1, 1, 0), CableLooms.STATE);
    due("3: outside ahead of full", x.wire(0, 1, 51, 0), CableLooms.OUTSIDE);
    due("3: unknown ahead of full", x.wire(0, -1, 1, 0), CableLooms.UNKNOWN);
    due("3: twenty", x.count(1), 20);
    due("3: none is laid", x.count(2), 0);
    due("3: not laid", x.length(0), CableLooms.NONE);
    due("3: no options", x.option(19, 1), 0);
  }

  private static void promise4Apart() {
    CableLooms x = new CableLooms();
    int[] notKinds = {-1, 4, MIN, MAX};
    for (int kind : notKinds) {
      due("4: one", x.apart(kind, 0, true), CableLooms.OUTSIDE);
      due("4: other", x.apart(0, kind, true), CableLooms.OUTSIDE);
      due("4: outside ahead of state", x.apart(kind, kind, true), CableLooms.OUTSIDE);
    }
    for (int kind = 0; kind < 4; kind++) {
      due("4: both are one", x.apart(kind, kind, true), CableLooms.STATE);
    }
    due("4: set", x.apart(0, 3, true), 0);
    due("4: again", x.apart(0, 3, true), 1);
    due("4: the other way round", x.apart(3, 0, true), 1);
    due("4: others are not", x.apart(1, 3, false), 0);
    due("4: others are not", x.apart(0, 1, false), 0);
    due("4: no more", x.apart(3, 0, false), 1);
    due("4: no more either way", x.apart(0, 3, false), 0);
    due("4: already not", x.apart(3, 0, false), 0);

    CableLooms y = new CableLooms();
    y.duct(0, 1, 5, 100);
    y.wire(0, 1, 10, 0);
    y.wire(0, 1, 10, 1);
    y.lay(0);
    y.lay(1);
    y.apart(0, 1, true);
    due("4: laid ones stay", y.count(2), 2);
    due("4: laid ones stay", y.left(0, true), 2);
  }

  private static void promise5LayRefuses() {
    CableLooms x = new CableLooms();
    due("5: unknown", x.lay(0), CableLooms.UNKNOWN);
    x.wire(0, 1, 10, 0);
    int[] notWires = {-1, 1, 20, MIN, MAX};
    for (int wire : notWires) {
      due("5: unknown", x.lay(wire), CableLooms.UNKNOWN);
    }
    due("5: no ducts", x.lay(0), CableLooms.NONE);
    x.duct(0, 2, 3, 10);
    x.duct(1, 3, 3, 10);
    due("5: no way", x.lay(0), CableLooms.NONE);
    due("5: nothing changes", x.count(2), 0);
    due("5: nothing changes", x.left(0, false), 10);
    x.duct(2, 3, 4, 9);
    due("5: no room by one", x.lay(0), CableLooms.NONE);
    x.duct(3, 2, 5, 10);
    due("5: just room", x.lay(0), 11);
    due("5: way", x.way(0, 0), 0);
    due("5: way", x.way(0, 1), 3);
    due("5: way", x.way(0, 2), 1);
    due("5: laid", x.lay(0), CableLooms.STATE);
    due("5: laid once", x.left(0, true), 1);
  }

  private static void promise5LayByLengthThenDuctsThenNumbers() {
    CableLooms x = new CableLooms();
    x.duct(0, 1, 5, 100);
    x.duct(1, 2, 5, 100);
    x.duct(0, 2, 11, 100);
    x.wire(0, 2, 1, 0);
    due("5: length ahead of ducts", x.lay(0), 10);
    due("5: length ahead of ducts", x.way(0, 0), 0);
    x.duct(0, 2, 10, 100);
    x.wire(0, 2, 1, 0);
    due("5: fewest ducts", x.lay(1), 10);
    due("5: fewest ducts", x.way(1, 0), 3);
    due("5: fewest ducts", x.way(1, 1), CableLooms.NONE);
    due("5: laid before stays", x.way(0, 1), 1);

    // Two ways of like length and ducts: 1 4 and 2 0. The second has the least number, but the
    // first step tells.
    CableLooms y = new CableLooms();
    y.duct(3, 9, 5, 100);
    y.duct(0, 5, 5, 100);
    y.duct(0, 3, 5, 100);
    y.duct(7, 8, 5, 100);
    y.duct(5, 9, 5, 100);
    y.wire(0, 9, 1, 0);
    due("5: numbers", y.lay(0), 10);
    due("5: numbers", y.way(0, 0), 1);
    due("5: numbers", y.way(0, 1), 4);

    // The first steps are one; the second tells.
    CableLooms z = new CableLooms();
    z.duct(0, 1, 2, 100);
    z.duct(2, 3, 6, 100);
    z.duct(1, 4, 4, 100);
    z.duct(1, 2, 4, 100);
    z.duct(4, 3, 6, 100);
    z.wire(0, 3, 1, 0);
    due("5: second step", z.lay(0), 12);
    due("5: second step", z.way(0, 0), 0);
    due("5: second step", z.way(0, 1), 2);
    due("5: second step", z.way(0, 2), 4);
  }

  private static void promise5LayRowRunsFromTheWiresStart() {
    // From 0: ducts 0 3 or 1 2; from 9: 2 1 or 3 0. The first differs by where the wire starts.
    CableLooms x = new CableLooms();
    x.duct(0, 3, 5, 100);
    x.duct(0, 5, 5, 100);
    x.duct(5, 9, 5, 100);
    x.duct(3, 9, 5, 100);
    x.wire(0, 9, 1, 0);
    x.wire(9, 0, 1, 0);
    due("5: from 0", x.lay(0), 10);
    due("5: from 0", x.way(0, 0), 0);
    due("5: from 0", x.way(0, 1), 3);
    due("5: from 9", x.lay(1), 10);
    due("5: from 9", x.way(1, 0), 2);
    due("5: from 9", x.way(1, 1), 1);
  }

  private static void promise5LayWithRoomAndClasses() {
    CableLooms x = new CableLooms();
    x.duct(0, 1, 5, 20);
    x.duct(0, 1, 6, 20);
    x.duct(0, 1, 7, 20);
    x.wire(0, 1, 10, 0);
    x.wire(1, 0, 10, 0);
    x.wire(0, 1, 1, 0);
    x.wire(0, 1, 1, 2);
    x.apart(2, 0, true);
    due("5: first", x.lay(0), 5);
    due("5: room to the full", x.lay(1), 5);
    due("5: full", x.left(0, false), 0);
    due("5: no room left", x.lay(2), 6);
    due("5: class apart", x.lay(3), 7);
    due("5: lifted", x.lift(2), 6);
    due("5: lifted", x.lift(3), 7);
    due("5: no class beside any more", x.lay(3), 6);
    due("5: apart the other way round", x.lay(2), 7);
    x.apart(0, 2, false);
    x.lift(2);
    due("5: apart no more", x.lay(2), 6);
    x.apart(0, 2, true);
    x.lift(3);
    due("5: all others have class 0", x.lay(3), 7);
  }

  private static void promise5LayTheLongestWay() {
    CableLooms x = new CableLooms();
    for (int place = 0; place < 9; place++) {
      x.duct(place + 1, place, 99, 100);
    }
    x.wire(9, 0, 50, 1);
    due("5: all places", x.lay(0), 891);
    for (int i = 0; i < 9; i++) {
      due("5: all places", x.way(0, i), 8 - i);
    }
    due("5: all places", x.way(0, 9), CableLooms.NONE);
    x.wire(0, 9, 50, 1);
    due("5: all places, back", x.lay(1), 891);
    for (int i = 0; i < 9; i++) {
      due("5: all places, back", x.way(1, i), i);
    }
    x.wire(0, 1, 1, 1);
    due("5: full everywhere", x.lay(2), CableLooms.NONE);
  }

  private static void promise6Lift() {
    CableLooms x = new CableLooms();
    due("6: unknown", x.lift(0), CableLooms.UNKNOWN);
    x.duct(0, 1, 5, 20);
    x.duct(1, 2, 6, 20);
    x.wire(0, 2, 20, 0);
    x.wire(0, 2, 20, 1);
    int[] notWires = {-1, 2, 20, MIN, MAX};
    for (int wire : notWires) {
      due("6: unknown", x.lift(wire), CableLooms.UNKNOWN);
    }
    due("6: not laid", x.lift(0), CableLooms.STATE);
    x.lay(0);
    due("6: no room", x.lay(1), CableLooms.NONE);
    due("6: lift", x.lift(0), 11);
    due("6: again", x.lift(0), CableLooms.STATE);
    due("6: room is back", x.left(1, false), 20);
    due("6: no wires", x.left(1, true), 0);
    due("6: way", x.way(0, 0), CableLooms.NONE);
    due("6: length", x.length(0), CableLooms.NONE);
    due("6: lengths", x.count(5), 0);
    due("6: the other one", x.lay(1), 11);
  }

  private static void promise7Way() {
    CableLooms x = new CableLooms();
    due("7: unknown", x.way(0, 0), CableLooms.UNKNOWN);
    x.duct(0, 1, 5, 20);
    x.duct(1, 2, 6, 20);
    x.wire(2, 0, 20, 0);
    int[] notWires = {-1, 1, 20, MIN, MAX};
    for (int wire : notWires) {
      due("7: unknown", x.way(wire, 0), CableLooms.UNKNOWN);
      due("7: unknown", x.way(wire, -1), CableLooms.UNKNOWN);
    }
    due("7: not laid", x.way(0, 0), CableLooms.NONE);
    x.lay(0);
    due("7: first", x.way(0, 0), 1);
    due("7: second", x.way(0, 1), 0);
    int[] notSteps = {2, 9, -1, MIN, MAX};
    for (int i : notSteps) {
      due("7: not so many", x.way(0, i), CableLooms.NONE);
    }
  }

  private static void promise8Length() {
    CableLooms x = new CableLooms();
    due("8: unknown", x.length(0), CableLooms.UNKNOWN);
    x.duct(0, 1, 5, 20);
    x.duct(1, 2, 6, 20);
    x.wire(2, 0, 10, 0);
    x.wire(1, 0, 10, 0);
    int[] notWires = {-1, 2, 20, MIN, MAX};
    for (int wire : notWires) {
      due("8: unknown", x.length(wire), CableLooms.UNKNOWN);
    }
    due("8: not laid", x.length(0), CableLooms.NONE);
    x.lay(0);
    x.lay(1);
    due("8: length", x.length(0), 11);
    due("8: length", x.length(1), 5);
    x.duct(0, 2, 1, 300);
    due("8: a shorter one later", x.length(0), 11);
  }

  private static void promise9Left() {
    CableLooms x = new CableLooms();
    due("9: unknown", x.left(0, false), CableLooms.UNKNOWN);
    x.duct(0, 1, 5, 60);
    x.duct(1, 2, 6, 300);
    int[] notDucts = {-1, 2, 16, MIN, MAX};
    for (int duct : notDucts) {
      due("9: unknown", x.left(duct, false), CableLooms.UNKNOWN);
      due("9: unknown", x.left(duct, true), CableLooms.UNKNOWN);
    }
    x.wire(0, 2, 50, 0);
    x.wire(1, 0, 10, 1);
    due("9: not laid", x.left(0, false), 60);
    due("9: not laid", x.left(0, true), 0);
    x.lay(0);
    due("9: one", x.left(0, false), 10);
    due("9: one", x.left(0, true), 1);
    x.lay(1);
    due("9: none left", x.left(0, false), 0);
    due("9: two", x.left(0, true), 2);
    due("9: the other duct", x.left(1, false), 250);
    due("9: the other duct", x.left(1, true), 1);
  }

  private static void promise10Loss() {
    CableLooms x = new CableLooms();
    due("10: unknown ahead of outside", x.loss(0, 0), CableLooms.UNKNOWN);
    x.duct(0, 1, 99, 300);
    x.duct(1, 2, 1, 300);
    x.wire(0, 1, 1, 0);
    x.wire(1, 2, 50, 0);
    x.wire(0, 2, 3, 0);
    int[] notWires = {-1, 3, 20, MIN, MAX};
    for (int wire : notWires) {
      due("10: unknown", x.loss(wire, 1), CableLooms.UNKNOWN);
    }
    int[] notCurrents = {0, -1, 101, MIN, MAX};
    for (int current : notCurrents) {
      due("10: outside ahead of state", x.loss(0, current), CableLooms.OUTSIDE);
    }
    due("10: not laid", x.loss(0, 1), CableLooms.STATE);
    for (int wire = 0; wire < 3; wire++) {
      x.lay(wire);
    }
    due("10: outside", x.loss(0, 101), CableLooms.OUTSIDE);
    due("10: most current", x.loss(0, 100), 198000);
    due("10: cut up from a little", x.loss(1, 1), 1);
    due("10: cut up", x.loss(1, 3), 2);
    due("10: even", x.loss(1, 5), 2);
    due("10: thirds", x.loss(2, 1), 667);
    due("10: thirds", x.loss(2, 2), 1334);
    due("10: thirds", x.loss(2, 3), 2000);
  }

  private static void promise11Clashes() {
    CableLooms x = new CableLooms();
    due("11: nothing", x.clashes(), 0);
    x.duct(0, 1, 5, 300);
    x.duct(1, 2, 5, 300);
    x.duct(3, 4, 5, 300);
    x.wire(0, 2, 1, 0);
    x.wire(2, 0, 1, 1);
    x.wire(1, 2, 1, 1);
    x.wire(0, 1, 1, 2);
    x.wire(3, 4, 1, 3);
    x.wire(0, 1, 1, 1);
    for (int wire = 0; wire < 5; wire++) {
      x.lay(wire);
    }
    due("11: none apart", x.clashes(), 0);
    x.apart(3, 0, true);
    due("11: apart, but in no duct together", x.clashes(), 0);
    x.apart(2, 1, true);
    due("11: one duct", x.clashes(), 2);
    x.apart(0, 1, true);
    due("11: each once, of all ducts; not those that are not laid", x.clashes(), 4);
    x.lift(0);
    due("11: lifted", x.clashes(), 2);
    x.apart(1, 2, false);
    due("11: no more", x.clashes(), 0);
  }
}
