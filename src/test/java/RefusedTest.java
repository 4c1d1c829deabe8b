import java.util.function.ToLongFunction;

/**
 * "What is refused changes nothing", for each refusal of each call, on an object to which nothing was
 * told, on one with some of everything, and on one with all that may be made; and that calls which only
 * ask change nothing.
 */
public final class RefusedTest {
  private static final Check CHECK = new Check();
  private static final int UNKNOWN = -1;
  private static final int OUTSIDE = -2;
  private static final int STATE = -3;
  private static final int FULL = -4;
  private static final int NONE = -9;

  private static final Twins NEW = new Twins(CHECK, "new", x -> { });
  private static final Twins SOME = new Twins(CHECK, "some", RefusedTest::tellSome);
  private static final Twins ALL = new Twins(CHECK, "all", RefusedTest::tellAll);

  public static void main(String[] args) {
    duct();
    wire();
    apart();
    lay();
    lift();
    wayLengthLoss();
    left();
    farTwo();
    netSplice();
    option();
    order();
    setup();
    weightLoom();
    pin();
    sideShows();
    count();
    askingChangesNothing();
    CHECK.end();
  }

  // Wires 0 and 1 are laid, 2 was lifted, 3 has no way; 0 and 1 clash.
  private static void tellSome(CableLooms x) {
    x.duct(0, 1, 5, 20);
    x.duct(1, 9, 5, 20);
    x.duct(0, 9, 12, 30);
    x.wire(0, 9, 10, 0);
    x.wire(9, 0, 10, 1);
    x.wire(0, 1, 15, 2);
    x.wire(3, 4, 1, 3);
    x.lay(0);
    x.lay(1);
    x.apart(0, 1, true);
    x.lift(0);
    x.lay(2);
    x.lift(2);
    x.apart(0, 1, false);
    x.lay(0);
    x.apart(1, 0, true);
    x.option(1, 1);
    x.option(2, 128);
    x.order(1, 10);
    x.order(129, 90);
    x.setup(500);
    x.pin(0, 1);
    x.pin(15, 2);
  }

  // All ducts, wires, orders and nets there may be; wires 18 and 19 are not laid.
  private static void tellAll(CableLooms x) {
    for (int i = 0; i < 16; i++) {
      int a = i % 10;
      int b = (a + 1 + i / 10 * 3) % 10;
      x.duct(a, b, 5 + i % 3, 100);
    }
    for (int i = 0; i < 20; i++) {
      x.wire(i % 10, (i % 10 + 1 + i / 4) % 10, 1 + i, i % 4);
      x.option(i, 1 << i % 8);
    }
    for (int i = 0; i < 18; i++) {
      x.lay(i);
    }
    for (int i = 0; i < 8; i++) {
      x.order(255 >> i, 10 + i);
    }
    for (int pin = 0; pin < 16; pin++) {
      x.pin(pin, pin % 8);
    }
    x.apart(0, 3, true);
    x.setup(100);
  }

  private static void everywhere(String call, ToLongFunction<CableLooms> asked, long want) {
    NEW.changesNothing(call, asked, want);
    SOME.changesNothing(call, asked, want);
    ALL.changesNothing(call, asked, want);
  }

  private static void duct() {
    CHECK.sentence("2: duct, what is refused changes nothing");
    for (int place : Numbers.not(0, 9)) {
      everywhere("duct(" + place + ", 0, 1, 9)", x -> x.duct(place, 0, 1, 9), UNKNOWN);
      everywhere("duct(0, " + place + ", 1, 9)", x -> x.duct(0, place, 1, 9), UNKNOWN);
    }
    for (int length : Numbers.not(1, 99)) {
      everywhere("duct(0, 9, " + length + ", 9)", x -> x.duct(0, 9, length, 9), OUTSIDE);
    }
    for (int room : Numbers.not(1, 300)) {
      everywhere("duct(0, 9, 1, " + room + ")", x -> x.duct(0, 9, 1, room), OUTSIDE);
    }
    everywhere("duct(0, 0, 1, 9)", x -> x.duct(0, 0, 1, 9), STATE);
    everywhere("duct(9, 9, 99, 300)", x -> x.duct(9, 9, 99, 300), STATE);
    ALL.changesNothing("duct(0, 9, 1, 300)", x -> x.duct(0, 9, 1, 300), FULL);
    ALL.changesNothing("duct(9, 0, 99, 1)", x -> x.duct(9, 0, 99, 1), FULL);
  }

  private static void wire() {
    CHECK.sentence("3: wire, what is refused changes nothing");
    for (int place : Numbers.not(0, 9)) {
      everywhere("wire(" + place + ", 0, 1, 0)", x -> x.wire(place, 0, 1, 0), UNKNOWN);
      everywhere("wire(0, " + place + ", 1, 0)", x -> x.wire(0, place, 1, 0), UNKNOWN);
    }
    for (int thickness : Numbers.not(1, 50)) {
      everywhere("wire(0, 9, " + thickness + ", 0)", x -> x.wire(0, 9, thickness, 0), OUTSIDE);
    }
    for (int kind : Numbers.not(0, 3)) {
      everywhere("wire(0, 9, 1, " + kind + ")", x -> x.wire(0, 9, 1, kind), OUTSIDE);
    }
    everywhere("wire(0, 0, 1, 0)", x -> x.wire(0, 0, 1, 0), STATE);
    everywhere("wire(9, 9, 50, 3)", x -> x.wire(9, 9, 50, 3), STATE);
    ALL.changesNothing("wire(0, 9, 1, 0)", x -> x.wire(0, 9, 1, 0), FULL);
    ALL.changesNothing("wire(9, 0, 50, 3)", x -> x.wire(9, 0, 50, 3), FULL);
  }

  private static void apart() {
    CHECK.sentence("4: apart, what is refused changes nothing");
    for (boolean is : new boolean[] {true, false}) {
      for (int kind : Numbers.not(0, 3)) {
        everywhere("apart(" + kind + ", 0, " + is + ")", x -> x.apart(kind, 0, is), OUTSIDE);
        everywhere("apart(3, " + kind + ", " + is + ")", x -> x.apart(3, kind, is), OUTSIDE);
      }
      for (int kind = 0; kind < 4; kind++) {
        int both = kind;
        everywhere("apart(" + kind + ", " + kind + ", " + is + ")", x -> x.apart(both, both, is),
            STATE);
      }
    }
  }

  private static void lay() {
    CHECK.sentence("5: lay, what is refused and NONE change nothing");
    for (int wire : Numbers.not(0, -1)) {
      NEW.changesNothing("lay(" + wire + ")", x -> x.lay(wire), UNKNOWN);
    }
    for (int wire : Numbers.not(0, 3)) {
      SOME.changesNothing("lay(" + wire + ")", x -> x.lay(wire), UNKNOWN);
    }
    for (int wire : Numbers.not(0, 19)) {
      ALL.changesNothing("lay(" + wire + ")", x -> x.lay(wire), UNKNOWN);
    }
    SOME.changesNothing("lay(0)", x -> x.lay(0), STATE);
    SOME.changesNothing("lay(1)", x -> x.lay(1), STATE);
    ALL.changesNothing("lay(0)", x -> x.lay(0), STATE);
    ALL.changesNothing("lay(17)", x -> x.lay(17), STATE);
    SOME.changesNothing("lay(3)", x -> x.lay(3), NONE);
    // Some ducts of its way have room, but not all; then its class must not lie beside.
    new Twins(CHECK, "narrow", x -> tellNarrow(x, 9)).changesNothing("lay(1)", x -> x.lay(1), NONE);
    new Twins(CHECK, "beside", x -> tellNarrow(x, 60)).changesNothing("lay(1)", x -> x.lay(1), NONE);
  }

  private static void tellNarrow(CableLooms x, int room) {
    x.duct(0, 1, 1, 60);
    x.duct(1, 2, 1, room);
    x.wire(1, 2, 9, 0);
    x.wire(0, 2, 10, 1);
    x.lay(0);
    x.apart(0, 1, true);
  }

  private static void lift() {
    CHECK.sentence("6: lift, what is refused changes nothing");
    for (int wire : Numbers.not(0, -1)) {
      NEW.changesNothing("lift(" + wire + ")", x -> x.lift(wire), UNKNOWN);
    }
    for (int wire : Numbers.not(0, 3)) {
      SOME.changesNothing("lift(" + wire + ")", x -> x.lift(wire), UNKNOWN);
    }
    for (int wire : Numbers.not(0, 19)) {
      ALL.changesNothing("lift(" + wire + ")", x -> x.lift(wire), UNKNOWN);
    }
    SOME.changesNothing("lift(2)", x -> x.lift(2), STATE);
    SOME.changesNothing("lift(3)", x -> x.lift(3), STATE);
    ALL.changesNothing("lift(18)", x -> x.lift(18), STATE);
    ALL.changesNothing("lift(19)", x -> x.lift(19), STATE);
  }

  private static void wayLengthLoss() {
    CHECK.sentence("7, 8, 10: way, length, loss, what is refused changes nothing");
    for (int wire : Numbers.not(0, 19)) {
      everywhere("way(" + wire + ", 0)", x -> x.way(wire, 0), UNKNOWN);
      everywhere("length(" + wire + ")", x -> x.length(wire), UNKNOWN);
      everywhere("loss(" + wire + ", 1)", x -> x.loss(wire, 1), UNKNOWN);
    }
    for (int i : Numbers.not(0, 8)) {
      SOME.changesNothing("way(0, " + i + ")", x -> x.way(0, i), NONE);
      ALL.changesNothing("way(0, " + i + ")", x -> x.way(0, i), NONE);
    }
    for (int current : Numbers.not(1, 100)) {
      SOME.changesNothing("loss(0, " + current + ")", x -> x.loss(0, current), OUTSIDE);
      ALL.changesNothing("loss(0, " + current + ")", x -> x.loss(0, current), OUTSIDE);
    }
    SOME.changesNothing("way(2, 0)", x -> x.way(2, 0), NONE);
    SOME.changesNothing("length(2)", x -> x.length(2), NONE);
    SOME.changesNothing("loss(2, 1)", x -> x.loss(2, 1), STATE);
    ALL.changesNothing("way(19, 0)", x -> x.way(19, 0), NONE);
    ALL.changesNothing("length(19)", x -> x.length(19), NONE);
    ALL.changesNothing("loss(19, 1)", x -> x.loss(19, 1), STATE);
  }

  private static void left() {
    CHECK.sentence("9: left, what is refused changes nothing");
    for (int duct : Numbers.not(0, 15)) {
      everywhere("left(" + duct + ", false)", x -> x.left(duct, false), UNKNOWN);
      everywhere("left(" + duct + ", true)", x -> x.left(duct, true), UNKNOWN);
    }
    SOME.changesNothing("left(3, false)", x -> x.left(3, false), UNKNOWN);
  }

  private static void farTwo() {
    CHECK.sentence("12, 13: far, two, what is refused changes nothing");
    for (int place : Numbers.not(0, 9)) {
      everywhere("far(" + place + ", 0)", x -> x.far(place, 0), UNKNOWN);
      everywhere("far(9, " + place + ")", x -> x.far(9, place), UNKNOWN);
      everywhere("two(" + place + ", 0)", x -> x.two(place, 0), UNKNOWN);
      everywhere("two(9, " + place + ")", x -> x.two(9, place), UNKNOWN);
    }
    everywhere("far(9, 9)", x -> x.far(9, 9), STATE);
    everywhere("two(9, 9)", x -> x.two(9, 9), STATE);
    SOME.changesNothing("far(0, 5)", x -> x.far(0, 5), NONE);
    SOME.changesNothing("two(0, 5)", x -> x.two(0, 5), NONE);
  }

  private static void netSplice() {
    CHECK.sentence("14, 15: net, splice, what is refused changes nothing");
    int[] sets = {0, 1, 512, 1024, 1027, -1, Integer.MIN_VALUE, Integer.MAX_VALUE};
    for (int set : sets) {
      everywhere("net(" + set + ")", x -> x.net(set), OUTSIDE);
      everywhere("splice(" + set + ")", x -> x.splice(set), OUTSIDE);
    }
    SOME.changesNothing("net(33)", x -> x.net(33), NONE);
    SOME.changesNothing("splice(33)", x -> x.splice(33), NONE);
  }

  private static void option() {
    CHECK.sentence("16: option, what is refused changes nothing");
    for (int wire : Numbers.not(0, 19)) {
      everywhere("option(" + wire + ", 255)", x -> x.option(wire, 255), UNKNOWN);
    }
    SOME.changesNothing("option(4, 255)", x -> x.option(4, 255), UNKNOWN);
    for (int set : Numbers.not(0, 255)) {
      SOME.changesNothing("option(0, " + set + ")", x -> x.option(0, set), OUTSIDE);
      SOME.changesNothing("option(1, " + set + ")", x -> x.option(1, set), OUTSIDE);
      ALL.changesNothing("option(19, " + set + ")", x -> x.option(19, set), OUTSIDE);
    }
  }

  private static void order() {
    CHECK.sentence("17: order, what is refused changes nothing");
    for (int set : Numbers.not(0, 255)) {
      everywhere("order(" + set + ", 1)", x -> x.order(set, 1), OUTSIDE);
    }
    for (int pieces : Numbers.not(1, 1000)) {
      everywhere("order(0, " + pieces + ")", x -> x.order(0, pieces), OUTSIDE);
    }
    ALL.changesNothing("order(0, 1)", x -> x.order(0, 1), FULL);
    ALL.changesNothing("order(255, 1000)", x -> x.order(255, 1000), FULL);
  }

  private static void setup() {
    CHECK.sentence("18: setup, what is refused changes nothing");
    for (int n : Numbers.not(0, 100000)) {
      everywhere("setup(" + n + ")", x -> x.setup(n), OUTSIDE);
    }
  }

  private static void weightLoom() {
    CHECK.sentence("19, 21: weight, loom, what is refused changes nothing");
    for (int bit = 8; bit < 32; bit++) {
      int set = 1 << bit;
      everywhere("weight(1 << " + bit + ")", x -> x.weight(set), UNKNOWN);
    }
    everywhere("weight(-1)", x -> x.weight(-1), UNKNOWN);
    SOME.changesNothing("weight(4)", x -> x.weight(4), UNKNOWN);
    SOME.changesNothing("weight(7)", x -> x.weight(7), UNKNOWN);
    for (int order : Numbers.not(0, 7)) {
      everywhere("loom(" + order + ")", x -> x.loom(order), UNKNOWN);
    }
    SOME.changesNothing("loom(2)", x -> x.loom(2), UNKNOWN);
  }

  private static void pin() {
    CHECK.sentence("23: pin, what is refused changes nothing");
    for (int pin : Numbers.not(0, 15)) {
      everywhere("pin(" + pin + ", 7)", x -> x.pin(pin, 7), UNKNOWN);
    }
    for (int net : Numbers.not(0, 7)) {
      everywhere("pin(0, " + net + ")", x -> x.pin(0, net), UNKNOWN);
      everywhere("pin(15, " + net + ")", x -> x.pin(15, net), UNKNOWN);
    }
  }

  private static void sideShows() {
    CHECK.sentence("25, 26: side, shows, what is refused changes nothing");
    for (int pin : Numbers.not(0, 15)) {
      everywhere("side(0, " + pin + ")", x -> x.side(0, pin), UNKNOWN);
    }
    for (int test : Numbers.not(0, 2)) {
      everywhere("side(" + test + ", 0)", x -> x.side(test, 0), OUTSIDE);
    }
    for (int net : Numbers.not(0, 7)) {
      everywhere("shows(" + net + ", 0)", x -> x.shows(net, 0), UNKNOWN);
      everywhere("shows(0, " + net + ")", x -> x.shows(0, net), UNKNOWN);
    }
    SOME.changesNothing("shows(0, 7)", x -> x.shows(0, 7), UNKNOWN);
    everywhere("shows(0, 0)", x -> x.shows(0, 0), STATE);
  }

  private static void count() {
    CHECK.sentence("28: count, what is refused changes nothing");
    for (int what : Numbers.not(0, 5)) {
      everywhere("count(" + what + ")", x -> x.count(what), OUTSIDE);
    }
  }

  private static void askingChangesNothing() {
    CHECK.sentence("Nothing is promised beyond the state changes described");
    for (Twins twins : new Twins[] {NEW, SOME, ALL}) {
      for (int n = 0; n < 10; n++) {
        int i = n;
        twins.changesNothing("way", x -> x.way(i, 0));
        twins.changesNothing("length", x -> x.length(i));
        twins.changesNothing("left", x -> x.left(i, false) + x.left(i, true));
        twins.changesNothing("loss", x -> x.loss(i, 7));
        twins.changesNothing("far", x -> x.far(i, 9 - i));
        twins.changesNothing("two", x -> x.two(i, 9 - i));
        twins.changesNothing("net", x -> x.net(1 << i | 1 << 9 - i));
        twins.changesNothing("splice", x -> x.splice(1 << i | 1 << 9 - i));
        twins.changesNothing("weight", x -> x.weight((1 << i) - 1));
        twins.changesNothing("loom", x -> x.loom(i));
        twins.changesNothing("side", x -> x.side(i % 3, i));
        twins.changesNothing("shows", x -> x.shows(i, 0));
        twins.changesNothing("pairs", x -> x.pairs(i));
        twins.changesNothing("count", x -> x.count(i));
      }
      twins.changesNothing("clashes", x -> x.clashes());
      twins.changesNothing("best", x -> x.best());
      twins.changesNothing("alike", x -> x.alike());
      twins.changesNothing("tests", x -> x.tests());
    }
  }
}
