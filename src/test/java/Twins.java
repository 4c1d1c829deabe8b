import java.util.ArrayList;
import java.util.List;
import java.util.function.Consumer;
import java.util.function.ToLongFunction;

/**
 * Two objects that are told the same, one of which is asked one call more: all that can be asked of
 * them afterwards is compared, so that a change shows wherever it is kept.
 */
final class Twins {
  private static final int[] SETS = {0b1000000001, 0b1010101010};

  private final Check check;
  private final Consumer<CableLooms> told;
  private final String name;
  // The same calls always give the same answers, so the other twin is asked once.
  private final List<Long> without;

  Twins(Check check, String name, Consumer<CableLooms> told) {
    this.check = check;
    this.name = name;
    this.told = told;
    CableLooms other = new CableLooms();
    told.accept(other);
    without = allAnswers(other);
  }

  /** The call answers what is due, and changes nothing. */
  void changesNothing(String call, ToLongFunction<CableLooms> asked, long want) {
    CableLooms one = new CableLooms();
    told.accept(one);
    check.due(name + ": " + call, asked.applyAsLong(one), want);
    compare(call, one);
  }

  /** The call changes nothing, whatever it answers. */
  void changesNothing(String call, ToLongFunction<CableLooms> asked) {
    CableLooms one = new CableLooms();
    told.accept(one);
    asked.applyAsLong(one);
    compare(call, one);
  }

  private void compare(String call, CableLooms one) {
    List<Long> after = allAnswers(one);
    check.isTrue(name + ": after " + call + " all is as without it:\n" + after + "\n" + without,
        after.equals(without));
  }

  // Some 380 calls, so that with those that were told there are less than 512.
  private static List<Long> allAnswers(CableLooms x) {
    List<Long> all = new ArrayList<>();
    askCounts(x, all);
    askDuctsAndWires(x, all);
    askPlaces(x, all);
    askOrders(x, all);
    takeOver(x, all);
    askCounts(x, all);
    makeMore(x, all);
    return all;
  }

  private static void askCounts(CableLooms x, List<Long> all) {
    for (int what = 0; what < 6; what++) {
      all.add((long) x.count(what));
    }
    all.add((long) x.clashes());
    all.add((long) x.tests());
    all.add((long) x.alike());
    all.add(x.best());
  }

  private static void askDuctsAndWires(CableLooms x, List<Long> all) {
    for (int duct = 0; duct < 16; duct++) {
      all.add((long) x.left(duct, false));
      all.add((long) x.left(duct, true));
    }
    for (int wire = 0; wire < 20; wire++) {
      all.add((long) x.length(wire));
      all.add((long) x.loss(wire, 1));
      for (int i = 0; i < 4; i++) {
        all.add((long) x.way(wire, i));
      }
    }
  }

  private static void askPlaces(CableLooms x, List<Long> all) {
    for (int place = 1; place < 10; place++) {
      all.add((long) x.far(0, place));
      all.add((long) x.two(place, 0));
    }
    for (int set : SETS) {
      all.add((long) x.net(set));
      all.add((long) x.splice(set));
    }
  }

  private static void askOrders(CableLooms x, List<Long> all) {
    for (int order = 0; order < 8; order++) {
      all.add((long) x.weight(1 << order));
      all.add((long) x.loom(order));
    }
  }

  // What can be asked only by telling something new.
  private static void takeOver(CableLooms x, List<Long> all) {
    for (int pin = 0; pin < 16; pin++) {
      all.add((long) x.pin(pin, pin % 3));
    }
    for (int wire = 0; wire < 20; wire++) {
      all.add((long) x.option(wire, wire));
    }
    all.add((long) x.setup(7));
    for (int one = 0; one < 4; one++) {
      for (int other = one + 1; other < 4; other++) {
        all.add((long) x.apart(one, other, false));
      }
    }
    for (int wire = 0; wire < 20; wire++) {
      all.add((long) x.lift(wire));
    }
    layEachAlone(x, all);
    layAllTogether(x, all);
  }

  // Asked last: on a full object these are refused themselves, and would leave the same behind.
  private static void makeMore(CableLooms x, List<Long> all) {
    all.add((long) x.duct(0, 9, 2, 100));
    all.add((long) x.wire(0, 9, 2, 0));
    all.add((long) x.order(3, 2));
  }

  // Shows where each wire goes from and to.
  private static void layEachAlone(CableLooms x, List<Long> all) {
    for (int wire = 0; wire < 20; wire++) {
      all.add((long) x.lay(wire));
      all.add((long) x.way(wire, 0));
      all.add((long) x.lift(wire));
    }
  }

  // Shows the class of each wire.
  private static void layAllTogether(CableLooms x, List<Long> all) {
    for (int wire = 0; wire < 20; wire++) {
      all.add((long) x.lay(wire));
    }
    for (int one = 0; one < 4; one++) {
      for (int other = one + 1; other < 4; other++) {
        x.apart(one, other, true);
        all.add((long) x.clashes());
        x.apart(one, other, false);
      }
    }
  }
}
