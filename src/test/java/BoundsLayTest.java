/**
 * Promises 5 to 11, wires laid and lifted: a test for each sentence that names a boundary case. That
 * refused calls change nothing stands in RefusedTest.
 */
public final class BoundsLayTest {
  private static final Check CHECK = new Check();
  private static final int UNKNOWN = -1;
  private static final int OUTSIDE = -2;
  private static final int STATE = -3;
  private static final int NONE = -9;

  private static void due(String call, long got, long want) {
    CHECK.due(call, got, want);
  }

  public static void main(String[] args) {
    layUnknown();
    layState();
    layStateAheadOfNone();
    layNoneWithoutDucts();
    layRoomAtMost();
    layRoomOfOne();
    layRoomOfTheMost();
    layRoomOfTheLastDuctOfAWay();
    layClassApart();
    layComesToNoPlaceTwice();
    layLengthAheadOfDucts();
    layLikeLengthFewestDucts();
    layLikeDuctsFirstNumbers();
    liftUnknown();
    liftState();
    liftLengthThatItHad();
    wayUnknown();
    wayNotLaid();
    wayNotSoMany();
    lengthUnknown();
    lengthNotLaid();
    lengthLeastAndMost();
    leftUnknown();
    leftNone();
    leftWires();
    lossUnknown();
    lossCurrent();
    lossState();
    lossFirstRefusal();
    lossCutUp();
    lossLeastAndMost();
    clashesNone();
    clashesEachOnce();
    clashesNow();
    clashesAll();
    CHECK.end();
  }

  private static CableLooms chain(int length, int room) {
    CableLooms x = new CableLooms();
    for (int place = 0; place < 9; place++) {
      x.duct(place, place + 1, length, room);
    }
    return x;
  }

  private static CableLooms withWires(int wires) {
    CableLooms x = new CableLooms();
    x.duct(0, 1, 7, 300);
    for (int i = 0; i < wires; i++) {
      x.wire(0, 1, 1, 0);
    }
    return x;
  }

  // ---- promise 5

  private static void layUnknown() {
    CHECK.sentence("5: UNKNOWN");
    for (int wires = 0; wires <= 20; wires++) {
      CableLooms x = withWires(wires);
      for (int wire : Numbers.not(0, wires - 1)) {
        due("lay(" + wire + ") of " + wires, x.lay(wire), UNKNOWN);
      }
      due("count(2)", x.count(2), 0);
      if (wires > 0) {
        due("the last of " + wires, x.lay(wires - 1), 7);
      }
    }
  }

  private static void layState() {
    CHECK.sentence("5: STATE: it is LAID");
    CableLooms x = withWires(2);
    due("lay(0)", x.lay(0), 7);
    due("lay(0) again", x.lay(0), STATE);
    due("lay(0) again", x.lay(0), STATE);
    due("laid once", x.left(0, true), 1);
    due("laid once", x.left(0, false), 299);
    due("the other", x.lay(1), 7);
    due("lift(0)", x.lift(0), 7);
    due("it may be laid again", x.lay(0), 7);
  }

  private static void layStateAheadOfNone() {
    CHECK.sentence("5: of several the first that a call names");
    CableLooms x = new CableLooms();
    x.duct(0, 1, 7, 1);
    x.wire(0, 1, 1, 0);
    due("lay(0)", x.lay(0), 7);
    due("laid, and no room for another", x.lay(0), STATE);
  }

  private static void layNoneWithoutDucts() {
    CHECK.sentence("5: NONE: there is no WAY for it");
    CableLooms x = new CableLooms();
    x.wire(0, 9, 1, 0);
    due("no ducts", x.lay(0), NONE);
    for (int place = 0; place < 9; place++) {
      if (place != 4) {
        x.duct(place, place + 1, 1, 1);
      }
    }
    due("a gap", x.lay(0), NONE);
    due("count(2)", x.count(2), 0);
    x.duct(5, 4, 1, 1);
    due("no gap", x.lay(0), 9);
  }

  private static void layRoomAtMost() {
    CHECK.sentence("5: the THICKNESSES of WIRES LAID through it and its own are ROOM at most");
    for (int thickness = 1; thickness <= 50; thickness++) {
      CableLooms x = new CableLooms();
      if (thickness > 1) {
        x.duct(0, 1, 1, thickness - 1);
      }
      x.wire(0, 1, thickness, 0);
      due("too little by one for " + thickness, x.lay(0), NONE);
      x.duct(0, 1, 2, thickness);
      due("just enough for " + thickness, x.lay(0), 2);
    }
    CableLooms y = new CableLooms();
    y.duct(0, 1, 1, 20);
    y.wire(0, 1, 12, 0);
    y.wire(1, 0, 9, 0);
    y.wire(1, 0, 8, 0);
    due("12 of 20", y.lay(0), 1);
    due("12 and 9 of 20", y.lay(1), NONE);
    due("12 and 8 of 20", y.lay(2), 1);
    y.lift(0);
    due("8 and 9 of 20", y.lay(1), 1);
  }

  private static void layRoomOfOne() {
    CHECK.sentence("5: a ROOM of 1 is taken by a THICKNESS of 1");
    CableLooms x = new CableLooms();
    x.duct(0, 1, 3, 1);
    x.wire(0, 1, 1, 0);
    x.wire(0, 1, 1, 0);
    due("the first", x.lay(0), 3);
    due("the second", x.lay(1), NONE);
    due("lift(0)", x.lift(0), 3);
    due("the second, now", x.lay(1), 3);
    due("the first, now", x.lay(0), NONE);
  }

  private static void layRoomOfTheMost() {
    CHECK.sentence("5: a ROOM of 300 is taken by six THICKNESSES of 50");
    CableLooms x = new CableLooms();
    x.duct(0, 1, 3, 300);
    for (int i = 0; i < 6; i++) {
      x.wire(0, 1, 50, 0);
      due("of 50", x.lay(i), 3);
    }
    x.wire(0, 1, 1, 0);
    due("of 1", x.lay(6), NONE);
    due("left(0, false)", x.left(0, false), 0);
    x.lift(5);
    x.wire(0, 1, 49, 0);
    due("of 49", x.lay(7), 3);
    due("of 50", x.lay(5), NONE);
    due("of 1, now", x.lay(6), 3);
  }

  private static void layRoomOfTheLastDuctOfAWay() {
    CHECK.sentence("5: THE SHORTEST WAY of those through which it may go");
    // Each duct in turn has too little room: nothing is laid in those that have it.
    for (int narrow = 0; narrow < 9; narrow++) {
      CableLooms x = new CableLooms();
      for (int place = 0; place < 9; place++) {
        x.duct(place, place + 1, 1, place == narrow ? 9 : 10);
      }
      x.wire(0, 9, 10, 0);
      due("duct " + narrow + " is narrow", x.lay(0), NONE);
      for (int duct = 0; duct < 9; duct++) {
        due("left(" + duct + ", true)", x.left(duct, true), 0);
      }
      x.duct(narrow + 1, narrow, 99, 10);
      due("a wide one beside it", x.lay(0), 107);
      due("way(0, " + narrow + ")", x.way(0, narrow), 9);
    }
  }

  private static void layClassApart() {
    CHECK.sentence("5: none of them has a CLASS that is APART from its own");
    for (int one = 0; one < 4; one++) {
      for (int other = 0; other < 4; other++) {
        if (one != other) {
          layBeside(one, other);
        }
      }
    }
    // The last of many is enough.
    CableLooms x = new CableLooms();
    x.duct(0, 1, 3, 300);
    for (int i = 0; i < 20; i++) {
      x.wire(0, 1, 1, i == 18 ? 2 : i == 19 ? 3 : i % 2);
    }
    x.apart(3, 2, true);
    for (int i = 0; i < 19; i++) {
      due("lay(" + i + ")", x.lay(i), 3);
    }
    due("one of nineteen is apart", x.lay(19), NONE);
    x.lift(18);
    due("none of eighteen is apart", x.lay(19), 3);
  }

  private static void layBeside(int one, int other) {
    CableLooms x = new CableLooms();
    x.duct(0, 1, 3, 300);
    x.wire(0, 1, 1, one);
    x.wire(0, 1, 1, other);
    x.apart(Math.min(one, other), Math.max(one, other), true);
    due("class " + one, x.lay(0), 3);
    due("class " + other + " beside " + one, x.lay(1), NONE);
    for (int kind = 0; kind < 4; kind++) {
      x.wire(0, 1, 1, kind);
      due("class " + kind + " beside " + one, x.lay(2 + kind), kind == other ? NONE : 3);
    }
    x.apart(one, other, false);
    due("class " + other + ", apart no more", x.lay(1), 3);
  }

  private static void layComesToNoPlaceTwice() {
    CHECK.sentence("5: a WAY comes to no PLACE twice");
    CableLooms x = chain(99, 1);
    x.wire(0, 9, 1, 0);
    due("all ten places", x.lay(0), 891);
    for (int i = 0; i < 9; i++) {
      due("way(0, " + i + ")", x.way(0, i), i);
    }
    due("way(0, 9)", x.way(0, 9), NONE);
    for (int duct = 0; duct < 9; duct++) {
      due("left(" + duct + ", true)", x.left(duct, true), 1);
    }
    CableLooms y = chain(1, 1);
    y.wire(9, 0, 1, 0);
    due("back", y.lay(0), 9);
    for (int i = 0; i < 9; i++) {
      due("way(0, " + i + ")", y.way(0, i), 8 - i);
    }
  }

  private static void layLengthAheadOfDucts() {
    CHECK.sentence("5: THE SHORTEST has the least LENGTH");
    CableLooms x = chain(1, 1);
    x.duct(0, 9, 10, 1);
    x.wire(0, 9, 1, 0);
    due("nine of 1 ahead of one of 10", x.lay(0), 9);
    due("way(0, 8)", x.way(0, 8), 8);
    CableLooms y = chain(11, 1);
    y.duct(0, 9, 99, 1);
    y.duct(0, 9, 98, 1);
    y.wire(0, 9, 1, 0);
    due("one of 98 ahead of nine of 11", y.lay(0), 98);
    due("way(0, 0)", y.way(0, 0), 10);
  }

  private static void layLikeLengthFewestDucts() {
    CHECK.sentence("5: of like ones the fewest DUCTS");
    CableLooms x = chain(11, 1);
    x.duct(0, 9, 99, 1);
    x.wire(0, 9, 1, 0);
    due("one of 99, or nine of 11", x.lay(0), 99);
    due("way(0, 0)", x.way(0, 0), 9);
    due("way(0, 1)", x.way(0, 1), NONE);
    // Nine ducts or eight of like length; the eight have the greater numbers.
    CableLooms y = chain(2, 2);
    y.duct(7, 9, 4, 1);
    y.wire(0, 9, 1, 0);
    y.wire(0, 9, 1, 0);
    due("eight, or nine", y.lay(0), 18);
    due("way(0, 7)", y.way(0, 7), 9);
    due("way(0, 8)", y.way(0, 8), NONE);
    due("nine, where the eight are full", y.lay(1), 18);
    due("way(1, 8)", y.way(1, 8), 8);
  }

  private static void layLikeDuctsFirstNumbers() {
    CHECK.sentence("5: of like ones the first by DUCTS' numbers (place by place)");
    // All sixteen ducts are alike: the least number that has room.
    CableLooms x = new CableLooms();
    for (int i = 0; i < 16; i++) {
      x.duct(i % 2, 1 - i % 2, 5, 1);
    }
    for (int i = 0; i < 17; i++) {
      x.wire(0, 1, 1, 0);
      due("lay(" + i + ")", x.lay(i), i < 16 ? 5 : NONE);
      due("way(" + i + ", 0)", x.way(i, 0), i < 16 ? i : NONE);
    }
    x.lift(3);
    x.lift(11);
    due("two are free", x.lay(16), 5);
    due("the lesser", x.way(16, 0), 3);
    // The last step alone tells, and there the numbers 9 and 10 do not compare as texts do.
    CableLooms y = chain(2, 1);
    y.duct(9, 8, 2, 1);
    y.duct(8, 9, 2, 1);
    y.wire(0, 9, 1, 0);
    due("lay(0)", y.lay(0), 18);
    due("way(0, 8)", y.way(0, 8), 8);
    y.wire(8, 9, 1, 0);
    due("lay(1)", y.lay(1), 2);
    due("way(1, 0)", y.way(1, 0), 9);
  }

  // ---- promise 6

  private static void liftUnknown() {
    CHECK.sentence("6: UNKNOWN");
    for (int wires = 0; wires <= 20; wires++) {
      CableLooms x = withWires(wires);
      for (int wire = 0; wire < wires; wire++) {
        x.lay(wire);
      }
      for (int wire : Numbers.not(0, wires - 1)) {
        due("lift(" + wire + ") of " + wires, x.lift(wire), UNKNOWN);
      }
      due("count(2)", x.count(2), wires);
      if (wires > 0) {
        due("the last of " + wires, x.lift(wires - 1), 7);
      }
    }
  }

  private static void liftState() {
    CHECK.sentence("6: STATE: it is not LAID");
    CableLooms x = new CableLooms();
    x.wire(0, 1, 1, 0);
    due("never laid", x.lift(0), STATE);
    x.lay(0);
    due("there was no way", x.lift(0), STATE);
    x.duct(0, 1, 4, 1);
    x.lay(0);
    due("laid", x.lift(0), 4);
    due("lifted already", x.lift(0), STATE);
    due("lifted already", x.lift(0), STATE);
  }

  private static void liftLengthThatItHad() {
    CHECK.sentence("6: the LENGTH that its WAY had");
    CableLooms x = chain(99, 2);
    x.wire(0, 9, 1, 0);
    x.wire(9, 8, 1, 0);
    x.lay(0);
    x.lay(1);
    x.duct(0, 9, 1, 1);
    due("the greatest, though there is a shorter way now", x.lift(0), 891);
    due("the other stays", x.length(1), 99);
    due("the new way", x.lay(0), 1);
    due("the least", x.lift(0), 1);
    for (int duct = 0; duct < 10; duct++) {
      due("left(" + duct + ", true)", x.left(duct, true), duct == 8 ? 1 : 0);
    }
    due("count(5)", x.count(5), 99);
  }

  // ---- promise 7

  private static void wayUnknown() {
    CHECK.sentence("7: UNKNOWN");
    for (int wires = 0; wires <= 20; wires += 5) {
      CableLooms x = withWires(wires);
      for (int wire : Numbers.not(0, wires - 1)) {
        due("way(" + wire + ", 0) of " + wires, x.way(wire, 0), UNKNOWN);
        due("way(" + wire + ", 9) of " + wires, x.way(wire, 9), UNKNOWN);
        due("way(" + wire + ", -1) of " + wires, x.way(wire, -1), UNKNOWN);
      }
      if (wires > 0) {
        x.lay(wires - 1);
        due("the last of " + wires, x.way(wires - 1, 0), 0);
      }
    }
  }

  private static void wayNotLaid() {
    CHECK.sentence("7: NONE: it is not LAID");
    CableLooms x = chain(1, 1);
    x.wire(0, 9, 1, 0);
    for (int i = 0; i < 9; i++) {
      due("never laid: way(0, " + i + ")", x.way(0, i), NONE);
    }
    x.lay(0);
    x.lift(0);
    for (int i = 0; i < 9; i++) {
      due("lifted: way(0, " + i + ")", x.way(0, i), NONE);
    }
  }

  private static void wayNotSoMany() {
    CHECK.sentence("7: NONE: it has not so many");
    CableLooms x = chain(1, 300);
    for (int ducts = 9; ducts >= 1; ducts--) {
      int wire = 9 - ducts;
      x.wire(0, ducts, 1, 0);
      x.lay(wire);
      due("the last of " + ducts, x.way(wire, ducts - 1), ducts - 1);
      for (int i : Numbers.not(0, ducts - 1)) {
        due("way(" + wire + ", " + i + ") of " + ducts, x.way(wire, i), NONE);
      }
    }
    // A longer way that it had is not looked into.
    x.lift(0);
    x.duct(0, 9, 1, 1);
    x.lay(0);
    due("way(0, 0)", x.way(0, 0), 9);
    due("way(0, 1)", x.way(0, 1), NONE);
    due("way(0, 8)", x.way(0, 8), NONE);
  }

  // ---- promise 8

  private static void lengthUnknown() {
    CHECK.sentence("8: UNKNOWN");
    for (int wires = 0; wires <= 20; wires++) {
      CableLooms x = withWires(wires);
      for (int wire : Numbers.not(0, wires - 1)) {
        due("length(" + wire + ") of " + wires, x.length(wire), UNKNOWN);
      }
      if (wires > 0) {
        x.lay(wires - 1);
        due("the last of " + wires, x.length(wires - 1), 7);
      }
    }
  }

  private static void lengthNotLaid() {
    CHECK.sentence("8: NONE: it is not LAID");
    CableLooms x = new CableLooms();
    x.wire(0, 1, 1, 0);
    due("never laid", x.length(0), NONE);
    x.lay(0);
    due("there was no way", x.length(0), NONE);
    x.duct(0, 1, 4, 1);
    due("not yet", x.length(0), NONE);
    x.lay(0);
    due("laid", x.length(0), 4);
    x.lift(0);
    due("lifted", x.length(0), NONE);
  }

  private static void lengthLeastAndMost() {
    CHECK.sentence("8: The LENGTH of the WAY of a WIRE");
    CableLooms x = chain(99, 2);
    x.duct(0, 1, 1, 1);
    x.wire(1, 0, 1, 0);
    x.wire(9, 0, 1, 0);
    x.lay(0);
    due("the least", x.length(0), 1);
    x.lay(1);
    due("the greatest", x.length(1), 891);
    x.lift(0);
    due("it stays though there is room for a shorter one", x.length(1), 891);
  }

  // ---- promise 9

  private static void leftUnknown() {
    CHECK.sentence("9: UNKNOWN");
    CableLooms x = new CableLooms();
    for (int ducts = 0; ducts <= 16; ducts += 4) {
      while (x.count(0) < ducts) {
        x.duct(0, 1, 1, 300);
      }
      for (int duct : Numbers.not(0, ducts - 1)) {
        due("left(" + duct + ", false) of " + ducts, x.left(duct, false), UNKNOWN);
        due("left(" + duct + ", true) of " + ducts, x.left(duct, true), UNKNOWN);
      }
      if (ducts > 0) {
        due("the last of " + ducts, x.left(ducts - 1, false), 300);
        due("the last of " + ducts, x.left(ducts - 1, true), 0);
      }
    }
  }

  private static void leftNone() {
    CHECK.sentence("9: How much ROOM is left in a DUCT (0: none)");
    CableLooms x = new CableLooms();
    x.duct(0, 1, 1, 300);
    due("all", x.left(0, false), 300);
    for (int i = 0; i < 20; i++) {
      x.wire(0, 1, 15, i % 4);
      x.lay(i);
      due("after " + (i + 1), x.left(0, false), 300 - 15 * (i + 1));
    }
    due("none", x.left(0, false), 0);
    x.lift(19);
    due("lifted", x.left(0, false), 15);
    CableLooms y = new CableLooms();
    y.duct(0, 1, 1, 1);
    y.wire(0, 1, 1, 0);
    due("1 of 1", y.left(0, false), 1);
    y.lay(0);
    due("0 of 1", y.left(0, false), 0);
  }

  private static void leftWires() {
    CHECK.sentence("9: how many WIRES are LAID through it (wires)");
    CableLooms x = chain(1, 300);
    for (int i = 0; i < 20; i++) {
      x.wire(0, 9, 15, 0);
      due("not laid yet", x.left(0, true), i);
      x.lay(i);
      due("the first duct", x.left(0, true), i + 1);
      due("the last duct", x.left(8, true), i + 1);
    }
    for (int i = 0; i < 20; i++) {
      x.lift(i);
      due("lifted", x.left(4, true), 19 - i);
    }
  }

  // ---- promise 10

  private static void lossUnknown() {
    CHECK.sentence("10: UNKNOWN");
    for (int wires = 0; wires <= 20; wires++) {
      CableLooms x = withWires(wires);
      for (int wire : Numbers.not(0, wires - 1)) {
        due("loss(" + wire + ", 1) of " + wires, x.loss(wire, 1), UNKNOWN);
      }
      if (wires > 0) {
        x.lay(wires - 1);
        due("the last of " + wires, x.loss(wires - 1, 1), 140);
      }
    }
  }

  private static void lossCurrent() {
    CHECK.sentence("10: OUTSIDE: current (1 to 100)");
    CableLooms x = withWires(1);
    x.lay(0);
    for (int current : Numbers.not(1, 100)) {
      due("loss(0, " + current + ")", x.loss(0, current), OUTSIDE);
    }
    due("the least", x.loss(0, 1), 140);
    due("the greatest", x.loss(0, 100), 14000);
  }

  private static void lossState() {
    CHECK.sentence("10: STATE: it is not LAID");
    CableLooms x = withWires(2);
    x.lay(1);
    due("never laid", x.loss(0, 1), STATE);
    x.lay(0);
    due("laid", x.loss(0, 1), 140);
    x.lift(0);
    due("lifted", x.loss(0, 1), STATE);
    due("lifted", x.loss(0, 100), STATE);
    due("the other", x.loss(1, 1), 140);
  }

  private static void lossFirstRefusal() {
    CHECK.sentence("10: of several the first that a call names");
    CableLooms x = withWires(1);
    for (int current : Numbers.not(1, 100)) {
      due("unknown, outside", x.loss(1, current), UNKNOWN);
      due("unknown, outside", x.loss(-1, current), UNKNOWN);
      due("outside, state", x.loss(0, current), OUTSIDE);
    }
  }

  private static void lossCutUp() {
    CHECK.sentence("10: 20 times CURRENT by the LENGTH of its WAY by THICKNESS, cut up");
    CableLooms x = new CableLooms();
    x.duct(0, 1, 1, 300);
    x.duct(2, 3, 7, 300);
    int[] thicknesses = {1, 3, 7, 19, 20, 21, 49};
    for (int i = 0; i < thicknesses.length; i++) {
      x.wire(0, 1, thicknesses[i], 0);
      x.wire(2, 3, thicknesses[i], 0);
      x.lay(2 * i);
      x.lay(2 * i + 1);
      for (int current = 1; current <= 22; current++) {
        due(current + " through " + thicknesses[i], x.loss(2 * i, current),
            (long) Math.ceil(20.0 * current / thicknesses[i]));
        due(current + " through " + thicknesses[i] + " by 7", x.loss(2 * i + 1, current),
            (long) Math.ceil(140.0 * current / thicknesses[i]));
      }
    }
  }

  private static void lossLeastAndMost() {
    CHECK.sentence("10: THE LOSS of a WIRE");
    CableLooms x = chain(99, 300);
    x.duct(0, 1, 1, 300);
    x.wire(1, 9, 1, 0);
    x.wire(0, 1, 50, 0);
    x.lay(0);
    x.lay(1);
    due("eight ducts of 99", x.loss(0, 100), 1584000);
    due("the least", x.loss(1, 1), 1);
    due("two fifths twice", x.loss(1, 2), 1);
    due("more than one", x.loss(1, 3), 2);
    due("40 whole", x.loss(1, 100), 40);
    CableLooms y = chain(99, 300);
    y.wire(9, 0, 1, 0);
    y.lay(0);
    due("the greatest", y.loss(0, 100), 1782000);
  }

  // ---- promise 11

  private static void clashesNone() {
    CHECK.sentence("11: WIRES lie in a DUCT with one of a CLASS that is APART");
    CableLooms x = new CableLooms();
    due("no wires", x.clashes(), 0);
    x.duct(0, 1, 1, 300);
    x.duct(2, 3, 1, 300);
    x.wire(0, 1, 1, 0);
    x.wire(0, 1, 1, 1);
    x.wire(2, 3, 1, 1);
    x.apart(0, 1, true);
    due("not laid", x.clashes(), 0);
    x.lay(0);
    due("alone", x.clashes(), 0);
    x.lay(2);
    due("in another duct", x.clashes(), 0);
    x.apart(0, 1, false);
    x.lay(1);
    due("not apart", x.clashes(), 0);
    x.apart(2, 0, true);
    due("others apart", x.clashes(), 0);
    x.apart(1, 0, true);
    due("two", x.clashes(), 2);
  }

  private static void clashesEachOnce() {
    CHECK.sentence("11: (each counted once, of all DUCTS)");
    // Wire 0 goes through nine ducts, beside three others in each.
    CableLooms x = chain(1, 300);
    x.wire(0, 9, 1, 0);
    x.wire(9, 0, 1, 1);
    x.wire(0, 9, 1, 2);
    x.wire(8, 9, 1, 3);
    x.wire(0, 1, 1, 0);
    for (int wire = 0; wire < 5; wire++) {
      x.lay(wire);
    }
    x.apart(0, 3, true);
    due("in the last duct", x.clashes(), 2);
    x.apart(0, 1, true);
    due("in all ducts", x.clashes(), 4);
    x.apart(0, 2, true);
    x.apart(1, 2, true);
    due("in all ducts, with several", x.clashes(), 5);
  }

  private static void clashesNow() {
    CHECK.sentence("11: APART from theirs now");
    CableLooms x = new CableLooms();
    x.duct(0, 1, 1, 300);
    for (int kind = 0; kind < 4; kind++) {
      x.wire(0, 1, 1, kind);
      x.lay(kind);
    }
    for (int round = 0; round < 2; round++) {
      due("before", x.clashes(), 0);
      x.apart(0, 3, true);
      due("0 and 3", x.clashes(), 2);
      x.apart(1, 2, true);
      due("1 and 2 too", x.clashes(), 4);
      x.apart(3, 0, false);
      due("1 and 2 alone", x.clashes(), 2);
      x.apart(2, 1, false);
    }
    x.apart(0, 3, true);
    x.lift(3);
    due("lifted", x.clashes(), 0);
  }

  private static void clashesAll() {
    CHECK.sentence("11: How many WIRES");
    CableLooms x = new CableLooms();
    x.duct(0, 1, 1, 300);
    for (int wire = 0; wire < 20; wire++) {
      x.wire(0, 1, 15, wire == 0 ? 3 : 0);
      x.lay(wire);
    }
    due("none", x.clashes(), 0);
    x.apart(0, 3, true);
    due("all twenty", x.clashes(), 20);
    x.lift(0);
    due("the one that was apart from all is lifted", x.clashes(), 0);
  }
}
