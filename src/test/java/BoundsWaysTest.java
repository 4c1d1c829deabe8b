/** Promises 12 to 15, far, two, net and splice: a test for each sentence that names a boundary case. */
public final class BoundsWaysTest {
  private static final Check CHECK = new Check();
  private static final int UNKNOWN = -1;
  private static final int OUTSIDE = -2;
  private static final int STATE = -3;
  private static final int NONE = -9;
  private static final int ALL = 1023;

  private static void due(String call, long got, long want) {
    CHECK.due(call, got, want);
  }

  public static void main(String[] args) {
    farUnknown();
    farBothAreOne();
    farFirstRefusal();
    farNone();
    farLeastAndMost();
    farWhateverIsLaid();
    twoUnknown();
    twoBothAreOne();
    twoFirstRefusal();
    twoNone();
    twoShareNoDuct();
    twoLeastAndMost();
    twoWhateverIsLaid();
    netSetTaken();
    netSetRefused();
    netNone();
    netLeastAndMost();
    netOfAllPlaces();
    netJoinsInAnyOrder();
    spliceSetTaken();
    spliceSetRefused();
    spliceNoneOfTheSet();
    spliceLeastPlace();
    spliceGreater();
    spliceNoNetWithout();
    spliceNoNetWithAll();
    CHECK.end();
  }

  private static CableLooms chain(int length) {
    CableLooms x = new CableLooms();
    for (int place = 0; place < 9; place++) {
      x.duct(place, place + 1, length, 1);
    }
    return x;
  }

  // ---- promise 12

  private static void farUnknown() {
    CHECK.sentence("12: UNKNOWN");
    CableLooms x = chain(1);
    for (int place : Numbers.not(0, 9)) {
      due("far(" + place + ", 0)", x.far(place, 0), UNKNOWN);
      due("far(9, " + place + ")", x.far(9, place), UNKNOWN);
    }
    for (int a = 0; a < 10; a++) {
      for (int b = 0; b < 10; b++) {
        if (a != b) {
          due("far(" + a + ", " + b + ")", x.far(a, b), Math.abs(a - b));
        }
      }
    }
  }

  private static void farBothAreOne() {
    CHECK.sentence("12: STATE: both are one");
    CableLooms x = chain(1);
    for (int place = 0; place < 10; place++) {
      due("far(" + place + ", " + place + ")", x.far(place, place), STATE);
    }
  }

  private static void farFirstRefusal() {
    CHECK.sentence("12: of several the first that a call names");
    CableLooms x = new CableLooms();
    for (int place : Numbers.not(0, 9)) {
      due("unknown, state", x.far(place, place), UNKNOWN);
    }
    due("state, none", x.far(5, 5), STATE);
  }

  private static void farNone() {
    CHECK.sentence("12: NONE");
    CableLooms x = new CableLooms();
    due("no ducts", x.far(0, 9), NONE);
    for (int place = 0; place < 8; place++) {
      x.duct(place, place + 1, 1, 1);
    }
    for (int place = 0; place < 9; place++) {
      due("no duct to 9: far(" + place + ", 9)", x.far(place, 9), NONE);
      due("no duct to 9: far(9, " + place + ")", x.far(9, place), NONE);
    }
    due("the others", x.far(8, 0), 8);
    x.duct(9, 8, 1, 1);
    due("a duct to 9", x.far(0, 9), 9);
  }

  private static void farLeastAndMost() {
    CHECK.sentence("12: The LENGTH of THE SHORTEST WAY");
    CableLooms x = chain(99);
    due("the greatest", x.far(0, 9), 891);
    due("the greatest, back", x.far(9, 0), 891);
    x.duct(0, 9, 1, 1);
    due("the least", x.far(0, 9), 1);
    due("the other way about", x.far(4, 5), 99);
    due("round the ring", x.far(1, 8), 199);
    CableLooms y = chain(1);
    y.duct(0, 9, 10, 1);
    due("nine of 1 ahead of one of 10", y.far(0, 9), 9);
    y.duct(0, 9, 9, 1);
    due("as short", y.far(0, 9), 9);
    y.duct(0, 9, 8, 1);
    due("shorter", y.far(0, 9), 8);
  }

  private static void farWhateverIsLaid() {
    CHECK.sentence("12: whatever is LAID");
    CableLooms x = chain(1);
    x.wire(0, 9, 1, 0);
    x.wire(0, 9, 1, 0);
    x.lay(0);
    due("no room for a wire", x.lay(1), NONE);
    due("far(0, 9)", x.far(0, 9), 9);
    CableLooms y = new CableLooms();
    y.duct(0, 1, 1, 300);
    y.wire(0, 1, 1, 0);
    y.wire(0, 1, 1, 1);
    y.apart(0, 1, true);
    y.lay(0);
    due("a class apart", y.lay(1), NONE);
    due("far(0, 1)", y.far(0, 1), 1);
  }

  // ---- promise 13

  private static void twoUnknown() {
    CHECK.sentence("13: UNKNOWN");
    CableLooms x = chain(1);
    x.duct(0, 9, 5, 1);
    for (int place : Numbers.not(0, 9)) {
      due("two(" + place + ", 0)", x.two(place, 0), UNKNOWN);
      due("two(9, " + place + ")", x.two(9, place), UNKNOWN);
    }
    for (int a = 0; a < 10; a++) {
      for (int b = 0; b < 10; b++) {
        if (a != b) {
          due("round the ring: two(" + a + ", " + b + ")", x.two(a, b), 14);
        }
      }
    }
  }

  private static void twoBothAreOne() {
    CHECK.sentence("13: STATE; between two unlike PLACES");
    CableLooms x = chain(1);
    x.duct(0, 9, 5, 1);
    for (int place = 0; place < 10; place++) {
      due("two(" + place + ", " + place + ")", x.two(place, place), STATE);
    }
  }

  private static void twoFirstRefusal() {
    CHECK.sentence("13: of several the first that a call names");
    CableLooms x = new CableLooms();
    for (int place : Numbers.not(0, 9)) {
      due("unknown, state", x.two(place, place), UNKNOWN);
    }
    due("state, none", x.two(5, 5), STATE);
  }

  private static void twoNone() {
    CHECK.sentence("13: NONE");
    CableLooms x = new CableLooms();
    due("no way", x.two(0, 9), NONE);
    x.duct(0, 9, 1, 1);
    due("one way", x.two(0, 9), NONE);
    due("one way, back", x.two(9, 0), NONE);
    x.duct(0, 9, 1, 1);
    due("two ways", x.two(0, 9), 2);
    due("a place without ducts", x.two(0, 5), NONE);
    CableLooms y = chain(1);
    due("one way through all places", y.two(0, 9), NONE);
  }

  private static void twoShareNoDuct() {
    CHECK.sentence("13: TWO WAYS share no DUCT");
    // Two ducts at each step but one; which one it is does not matter.
    for (int single = 0; single < 7; single++) {
      CableLooms x = new CableLooms();
      for (int place = 0; place < 7; place++) {
        x.duct(place, place + 1, 1, 1);
        if (place != single) {
          x.duct(place + 1, place, 2, 1);
        }
      }
      due("one duct between " + single + " and the next", x.two(0, 7), NONE);
      due("up to there", x.two(0, single), single == 0 ? STATE : 3 * single);
      x.duct(single, single + 1, 99, 1);
      due("two ducts there", x.two(7, 0), 3 * 6 + 100);
    }
  }

  private static void twoLeastAndMost() {
    CHECK.sentence("13: the least LENGTH of two together");
    CableLooms x = new CableLooms();
    for (int i = 0; i < 16; i++) {
      x.duct(i / 2, i / 2 + 1, 99, 1);
    }
    due("all sixteen ducts", x.two(0, 8), 1584);
    due("all sixteen ducts, back", x.two(8, 0), 1584);
    CableLooms y = new CableLooms();
    for (int i = 0; i < 16; i++) {
      y.duct(0, 1, 16 - i, 1);
    }
    due("the two shortest of sixteen", y.two(0, 1), 3);
    CableLooms z = chain(1);
    z.duct(0, 9, 1, 1);
    due("one duct and nine", z.two(0, 9), 10);
    // The second way goes back through seven ducts of the first.
    CableLooms w = chain(1);
    w.duct(0, 8, 50, 1);
    w.duct(1, 9, 60, 1);
    due("the shortest is given up", w.two(0, 9), 112);
    due("the shortest is given up, back", w.two(9, 0), 112);
  }

  private static void twoWhateverIsLaid() {
    CHECK.sentence("13: (whatever is LAID)");
    CableLooms x = new CableLooms();
    x.duct(0, 1, 1, 1);
    x.duct(0, 1, 2, 1);
    x.wire(0, 1, 1, 0);
    x.wire(0, 1, 1, 0);
    x.lay(0);
    x.lay(1);
    due("no room in both", x.left(0, false) + x.left(1, false), 0);
    due("two(0, 1)", x.two(0, 1), 3);
  }

  // ---- promise 14

  private static void netSetTaken() {
    CHECK.sentence("14: a set of bits 0 .. 9, two at least");
    CableLooms x = chain(1);
    for (int a = 0; a < 10; a++) {
      for (int b = a + 1; b < 10; b++) {
        due("two places " + a + ", " + b, x.net(1 << a | 1 << b), b - a);
      }
    }
    due("all places", x.net(ALL), 9);
  }

  private static void netSetRefused() {
    CHECK.sentence("14: OUTSIDE: the set");
    CableLooms x = chain(1);
    CableLooms y = new CableLooms();
    for (int set : Numbers.notSetsOfPlaces()) {
      due("net(" + set + ")", x.net(set), OUTSIDE);
      due("without ducts: net(" + set + ")", y.net(set), OUTSIDE);
    }
  }

  private static void netNone() {
    CHECK.sentence("14: NONE");
    CableLooms x = new CableLooms();
    for (int place = 0; place < 8; place++) {
      x.duct(place, place + 1, 1, 1);
    }
    for (int place = 0; place < 9; place++) {
      due("9 has no duct: with " + place, x.net(1 << 9 | 1 << place), NONE);
    }
    due("9 has no duct: all", x.net(ALL), NONE);
    due("all others", x.net(ALL >> 1), 8);
    CableLooms y = new CableLooms();
    y.duct(0, 1, 1, 1);
    y.duct(8, 9, 1, 1);
    due("two parts", y.net(3 | 3 << 8), NONE);
    due("one part", y.net(3), 1);
    due("the other part", y.net(3 << 8), 1);
  }

  private static void netLeastAndMost() {
    CHECK.sentence("14: The least LENGTH of a NET of PLACES");
    CableLooms x = chain(99);
    due("the greatest", x.net(ALL), 891);
    due("the greatest of two", x.net(1 << 9 | 1), 891);
    x.duct(9, 0, 1, 1);
    due("the least", x.net(1 << 9 | 1), 1);
    due("all, with a ring", x.net(ALL), 793);
    CableLooms y = new CableLooms();
    for (int i = 0; i < 16; i++) {
      y.duct(i % 2, 1 - i % 2, 99 - i, 1);
    }
    due("the shortest of sixteen, which came last", y.net(3), 84);
    // The short ducts come behind and between the long ones.
    CableLooms z = new CableLooms();
    int[] lengths = {9, 4, 7, 2, 8, 1, 6, 3, 5, 4, 9, 2, 7, 1, 8, 3};
    for (int i = 0; i < 16; i++) {
      z.duct(i % 5, (i % 5 + 1 + i / 10) % 5, lengths[i], 1);
      z.net(0b11111);
    }
    // Ducts 5 (0-1: 1), 13 (3-0: 1), 3 (3-4: 2) and 7 (2-3: 3); 11 (1-3: 2) joins nothing more.
    due("the shortest that join five places", z.net(0b11111), 7);
  }

  private static void netOfAllPlaces() {
    CHECK.sentence("14: a set of DUCTS by which all of them hang together");
    // A star: each place of the set brings its own duct, and the middle comes along.
    for (int middle = 0; middle < 10; middle++) {
      CableLooms x = new CableLooms();
      for (int place = 0; place < 10; place++) {
        if (place != middle) {
          x.duct(middle, place, 1 + place, 1);
        }
      }
      due("all, round " + middle, x.net(ALL), 55 - 1 - middle);
      due("all but " + middle, x.net(ALL & ~(1 << middle)), 55 - 1 - middle);
      int one = middle == 0 ? 1 : 0;
      int other = middle == 9 ? 8 : 9;
      due("two, round " + middle, x.net(1 << one | 1 << other), 2 + one + other);
      due("with the middle", x.net(1 << one | 1 << middle), 1 + one);
    }
  }

  private static void netJoinsInAnyOrder() {
    CHECK.sentence("14: hang together, in whatever order its DUCTS came");
    // Ten places in a row whose ducts grow from either end or from the middle.
    int[][] orders = {{0, 1, 2, 3, 4, 5, 6, 7, 8}, {8, 7, 6, 5, 4, 3, 2, 1, 0},
        {4, 3, 5, 2, 6, 1, 7, 0, 8}, {0, 8, 1, 7, 2, 6, 3, 5, 4}, {0, 2, 4, 6, 8, 1, 3, 5, 7}};
    for (int[] order : orders) {
      for (int turned = 0; turned < 2; turned++) {
        CableLooms x = new CableLooms();
        for (int i = 0; i < 9; i++) {
          x.duct(order[i] + turned, order[i] + 1 - turned, 1 + i, 1);
        }
        due("all", x.net(ALL), 45);
        due("both ends", x.net(1 << 9 | 1), 45);
        // Ends that hang together already need no duct more.
        x.duct(0, 9, 99, 1);
        x.duct(9, 0, 10, 1);
        due("all, with a long duct more", x.net(ALL), 45);
        due("both ends, with a duct of their own", x.net(1 << 9 | 1), 10);
      }
    }
  }

  // ---- promise 15

  private static void spliceSetTaken() {
    CHECK.sentence("15: a set of bits 0 .. 9, two at least");
    CableLooms x = chain(1);
    for (int a = 0; a < 10; a++) {
      for (int b = a + 1; b < 10; b++) {
        due("two places " + a + ", " + b, x.splice(1 << a | 1 << b), b == a + 1 ? NONE : a + 1);
      }
    }
    due("all places", x.splice(ALL), NONE);
  }

  private static void spliceSetRefused() {
    CHECK.sentence("15: OUTSIDE: the set");
    CableLooms x = chain(1);
    CableLooms y = new CableLooms();
    for (int set : Numbers.notSetsOfPlaces()) {
      due("splice(" + set + ")", x.splice(set), OUTSIDE);
      due("without ducts: splice(" + set + ")", y.splice(set), OUTSIDE);
    }
  }

  private static void spliceNoneOfTheSet() {
    CHECK.sentence("15: none of the set");
    CableLooms x = chain(1);
    for (int open = 1; open < 9; open++) {
      due("all but " + open, x.splice(ALL & ~(1 << open)), open);
    }
    due("all but an end", x.splice(ALL & ~1), NONE);
    due("all but the other end", x.splice(ALL & ~(1 << 9)), NONE);
    due("all", x.splice(ALL), NONE);
  }

  private static void spliceLeastPlace() {
    CHECK.sentence("15: The least PLACE");
    for (int middle = 0; middle < 10; middle++) {
      CableLooms x = new CableLooms();
      for (int place = 0; place < 10; place++) {
        if (place != middle) {
          x.duct(middle, place, 1, 1);
        }
      }
      due("round " + middle, x.splice(ALL & ~(1 << middle)), middle);
    }
    CableLooms y = new CableLooms();
    y.duct(8, 9, 1, 1);
    y.duct(9, 0, 1, 1);
    y.duct(0, 7, 1, 1);
    due("0 and 9 are needed", y.splice(1 << 8 | 1 << 7), 0);
    due("9 alone is needed", y.splice(1 << 8 | 1), 9);
  }

  private static void spliceGreater() {
    CHECK.sentence("15: the least LENGTH of the NET would be greater");
    CableLooms x = new CableLooms();
    x.duct(0, 5, 10, 1);
    x.duct(5, 9, 10, 1);
    x.duct(0, 9, 21, 1);
    due("greater by one without 5", x.splice(1 << 9 | 1), 5);
    x.duct(0, 9, 20, 1);
    due("as great without 5", x.splice(1 << 9 | 1), NONE);
    x.duct(0, 9, 19, 1);
    due("5 is not in it", x.splice(1 << 9 | 1), NONE);
    // Either of two places will do, so neither is needed.
    CableLooms y = new CableLooms();
    y.duct(0, 3, 4, 1);
    y.duct(3, 9, 4, 1);
    y.duct(0, 4, 4, 1);
    y.duct(4, 9, 4, 1);
    due("3 or 4", y.splice(1 << 9 | 1), NONE);
    y.duct(9, 4, 3, 1);
    due("4 is shorter by one", y.splice(1 << 9 | 1), 4);
  }

  private static void spliceNoNetWithout() {
    CHECK.sentence("15: or there would be no NET");
    CableLooms x = new CableLooms();
    x.duct(0, 1, 99, 1);
    x.duct(1, 2, 99, 1);
    due("no net without 1", x.splice(0b101), 1);
    x.duct(0, 2, 99, 1);
    due("a net without 1, and a shorter one", x.splice(0b101), NONE);
    due("none between", x.splice(0b011), NONE);
  }

  private static void spliceNoNetWithAll() {
    CHECK.sentence("15: NONE: there is no such, or no NET with all");
    CableLooms x = new CableLooms();
    due("no ducts", x.splice(0b101), NONE);
    x.duct(0, 1, 1, 1);
    due("no net with all", x.splice(0b101), NONE);
    due("no such", x.splice(0b011), NONE);
    x.duct(1, 2, 1, 1);
    due("there is one", x.splice(0b101), 1);
    due("no net with 3", x.splice(0b1101), NONE);
  }
}
