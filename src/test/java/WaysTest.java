/** Promises 12 to 15: far, two ways, nets and splices. */
public final class WaysTest {
  private static final Check CHECK = new Check();
  private static final int MIN = Integer.MIN_VALUE;
  private static final int MAX = Integer.MAX_VALUE;

  private static void due(String call, long got, long want) {
    CHECK.due(call, got, want);
  }

  public static void main(String[] args) {
    promise12Far();
    promise13TwoRefuses();
    promise13TwoGivesDuctsOfTheShortestBack();
    promise13TwoMayShareAPlace();
    promise14Net();
    promise14NetTakesPlacesBetween();
    promise15Splice();
    promise15SpliceWhereThereIsNoNetWithout();
    CHECK.end();
  }

  private static void promise12Far() {
    CableLooms x = new CableLooms();
    int[] notPlaces = {-1, 10, MIN, MAX};
    for (int place : notPlaces) {
      due("12: a", x.far(place, 0), CableLooms.UNKNOWN);
      due("12: b", x.far(0, place), CableLooms.UNKNOWN);
      due("12: unknown ahead of state", x.far(place, place), CableLooms.UNKNOWN);
    }
    due("12: both are one", x.far(0, 0), CableLooms.STATE);
    due("12: none", x.far(0, 9), CableLooms.NONE);
    x.duct(0, 1, 5, 1);
    x.duct(1, 9, 6, 1);
    due("12: two ducts", x.far(0, 9), 11);
    due("12: back", x.far(9, 0), 11);
    due("12: still none", x.far(0, 2), CableLooms.NONE);
    x.wire(0, 1, 1, 0);
    x.lay(0);
    due("12: whatever is laid", x.far(0, 9), 11);
    x.duct(9, 0, 10, 1);
    due("12: shorter", x.far(0, 9), 10);
    due("12: the other two are longer", x.far(1, 9), 6);
    CableLooms y = new CableLooms();
    for (int place = 0; place < 9; place++) {
      y.duct(place, place + 1, 99, 1);
    }
    due("12: all places", y.far(0, 9), 891);
    due("12: all places, back", y.far(9, 0), 891);
  }

  private static void promise13TwoRefuses() {
    CableLooms x = new CableLooms();
    int[] notPlaces = {-1, 10, MIN, MAX};
    for (int place : notPlaces) {
      due("13: a", x.two(place, 0), CableLooms.UNKNOWN);
      due("13: b", x.two(0, place), CableLooms.UNKNOWN);
      due("13: unknown ahead of state", x.two(place, place), CableLooms.UNKNOWN);
    }
    due("13: both are one", x.two(7, 7), CableLooms.STATE);
    due("13: no way", x.two(0, 9), CableLooms.NONE);
    x.duct(0, 9, 5, 1);
    due("13: one way alone", x.two(0, 9), CableLooms.NONE);
    x.duct(0, 1, 5, 1);
    x.duct(1, 2, 5, 1);
    due("13: a dead end", x.two(0, 9), CableLooms.NONE);
    x.duct(2, 9, 99, 1);
    x.wire(0, 9, 1, 0);
    x.lay(0);
    due("13: whatever is laid", x.two(0, 9), 114);
    due("13: back", x.two(9, 0), 114);
  }

  private static void promise13TwoGivesDuctsOfTheShortestBack() {
    // The shortest way 0 1 2 3 leaves none beside it; 0 1 3 and 0 2 3 do not use it whole.
    CableLooms x = new CableLooms();
    x.duct(0, 1, 1, 1);
    x.duct(1, 2, 1, 1);
    x.duct(2, 3, 1, 1);
    x.duct(0, 2, 10, 1);
    x.duct(1, 3, 20, 1);
    due("13: the shortest alone", x.far(0, 3), 3);
    due("13: both of them anew", x.two(0, 3), 32);
    due("13: both of them anew, back", x.two(3, 0), 32);
    x.duct(3, 0, 28, 1);
    due("13: the shortest and a third", x.two(0, 3), 31);
  }

  private static void promise13TwoMayShareAPlace() {
    CableLooms x = new CableLooms();
    x.duct(0, 1, 2, 1);
    x.duct(0, 1, 3, 1);
    x.duct(1, 2, 4, 1);
    x.duct(1, 2, 5, 1);
    due("13: a place is no duct", x.two(0, 2), 14);
  }

  private static void promise14Net() {
    CableLooms x = new CableLooms();
    int[] notSets = {0, 1, 2, 512, 1024, 1025, 2047, -1, -3, MIN, MAX};
    for (int set : notSets) {
      due("14: set", x.net(set), CableLooms.OUTSIDE);
    }
    due("14: no ducts", x.net(3), CableLooms.NONE);
    due("14: no ducts", x.net(1023), CableLooms.NONE);
    for (int place = 0; place < 9; place++) {
      x.duct(place, place + 1, 99, 1);
    }
    due("14: all", x.net(1023), 891);
    due("14: two ends", x.net(513), 891);
    due("14: two beside", x.net(3), 99);
    x.duct(0, 9, 1, 1);
    due("14: all, with a ring", x.net(1023), 793);
    due("14: two ends, with a ring", x.net(513), 1);
    x.wire(0, 9, 1, 0);
    x.lay(0);
    due("14: whatever is laid", x.net(513), 1);
    due("14: three", x.net(0b1000000011), 100);
  }

  private static void promise14NetTakesPlacesBetween() {
    // A star round 9: cheaper than the ring of the three, but dearer than two of its sides.
    CableLooms x = new CableLooms();
    x.duct(0, 1, 10, 1);
    x.duct(1, 2, 10, 1);
    x.duct(2, 0, 10, 1);
    x.duct(0, 9, 6, 1);
    x.duct(1, 9, 6, 1);
    due("14: two sides", x.net(7), 20);
    x.duct(2, 9, 7, 1);
    due("14: the star", x.net(7), 19);
    due("14: one side", x.net(3), 10);
    due("14: with the middle", x.net(519), 19);
    due("14: a place without ducts", x.net(15), CableLooms.NONE);
  }

  private static void promise15Splice() {
    CableLooms x = new CableLooms();
    int[] notSets = {0, 1, 2, 512, 1024, 1025, 2047, -1, -3, MIN, MAX};
    for (int set : notSets) {
      due("15: set", x.splice(set), CableLooms.OUTSIDE);
    }
    due("15: no net", x.splice(3), CableLooms.NONE);
    x.duct(0, 1, 10, 1);
    x.duct(1, 2, 10, 1);
    x.duct(2, 0, 10, 1);
    x.duct(0, 9, 6, 1);
    x.duct(1, 9, 6, 1);
    due("15: none needed", x.splice(7), CableLooms.NONE);
    x.duct(2, 9, 8, 1);
    due("15: as long without", x.splice(7), CableLooms.NONE);
    x.duct(2, 9, 7, 1);
    due("15: longer without", x.splice(7), 9);
    due("15: it is in the set", x.splice(519), CableLooms.NONE);
    x.duct(2, 5, 1, 1);
    x.duct(5, 9, 5, 1);
    due("15: the least of two", x.splice(7), 5);
  }

  private static void promise15SpliceWhereThereIsNoNetWithout() {
    CableLooms x = new CableLooms();
    x.duct(3, 8, 1, 1);
    x.duct(8, 4, 1, 1);
    x.duct(4, 7, 1, 1);
    due("15: no net without", x.splice(1 << 3 | 1 << 7), 4);
    due("15: no net without", x.splice(1 << 3 | 1 << 4), 8);
    due("15: none between", x.splice(1 << 3 | 1 << 8), CableLooms.NONE);
    due("15: no net with all", x.splice(1 << 3 | 1), CableLooms.NONE);
    x.duct(3, 7, 3, 1);
    due("15: as long without", x.splice(1 << 3 | 1 << 7), CableLooms.NONE);
    due("15: still needed", x.splice(1 << 3 | 1 << 4), 8);
  }
}
