import java.util.Arrays;

/**
 * Looms of cable: wires laid through ducts, two ways that share no duct, nets with the least
 * wire, looms for orders with options at the least cost, and tests that tell shorts.
 */
public final class CableLooms {
    public static final int UNKNOWN = -1, OUTSIDE = -2, STATE = -3, FULL = -4, NONE = -9;

    private static final int PLACES = 10;
    private static final int MOST_DUCTS = 16;
    private static final int MOST_WIRES = 20;
    private static final int KINDS = 4;
    private static final int MOST_ORDERS = 8;
    private static final int ORDER_SETS = 1 << MOST_ORDERS;
    private static final int OPTION_SETS = 1 << 8;
    private static final int PINS = 16;
    private static final int NETS = 8;
    private static final int NET_BITS = 3;
    // A way comes to no place twice, so it has a duct less than there are places.
    private static final int LONGEST_WAY = PLACES - 1;

    private final Ducts allDucts = new Ducts();
    private final Wires allWires = new Wires();
    private final Search search = new Search(allDucts);
    private final Splices splices = new Splices(allDucts);
    private final Orders allOrders = new Orders(allWires);
    private final Pins allPins = new Pins();

    public CableLooms() {
    }

    // ---- ducts, wires

    public int duct(int a, int b, int length, int room) {
        if (!isPlace(a) || !isPlace(b)) {
            return UNKNOWN;
        }
        if (!isWithin(length, 1, 99) || !isWithin(room, 1, 300)) {
            return OUTSIDE;
        }
        if (a == b) {
            return STATE;
        }
        if (allDucts.made >= MOST_DUCTS) {
            return FULL;
        }
        return allDucts.add(a, b, length, room);
    }

    public int wire(int from, int to, int thickness, int kind) {
        if (!isPlace(from) || !isPlace(to)) {
            return UNKNOWN;
        }
        if (!isWithin(thickness, 1, 50) || !isKind(kind)) {
            return OUTSIDE;
        }
        if (from == to) {
            return STATE;
        }
        if (allWires.made >= MOST_WIRES) {
            return FULL;
        }
        allOrders.stale = true;
        return allWires.add(from, to, thickness, kind);
    }

    public int apart(int one, int other, boolean is) {
        if (!isKind(one) || !isKind(other)) {
            return OUTSIDE;
        }
        if (one == other) {
            return STATE;
        }
        int were = allWires.areApart(one, other) ? 1 : 0;
        allWires.setApart(one, other, is);
        return were;
    }

    public int lay(int wire) {
        if (!isWire(wire)) {
            return UNKNOWN;
        }
        if (allWires.isLaid(wire)) {
            return STATE;
        }
        search.open(openDucts(wire));
        int length = search.leastLength(allWires.from[wire], allWires.to[wire]);
        if (length == NONE) {
            return NONE;
        }
        search.walk(allWires.from[wire], allWires.to[wire]);
        allWires.putThrough(wire, search.steps, search.stepCount, length);
        return length;
    }

    public int lift(int wire) {
        if (!isWire(wire)) {
            return UNKNOWN;
        }
        if (!allWires.isLaid(wire)) {
            return STATE;
        }
        int had = allWires.wayLength[wire];
        allWires.takeOut(wire);
        return had;
    }

    public int way(int wire, int i) {
        if (!isWire(wire)) {
            return UNKNOWN;
        }
        return allWires.step(wire, i);
    }

    public int length(int wire) {
        if (!isWire(wire)) {
            return UNKNOWN;
        }
        return allWires.isLaid(wire) ? allWires.wayLength[wire] : NONE;
    }

    public int left(int duct, boolean wires) {
        if (!isWithin(duct, 0, allDucts.made - 1)) {
            return UNKNOWN;
        }
        if (wires) {
            return allWires.laidThrough(duct);
        }
        return allDucts.rooms[duct] - allWires.thicknessThrough(duct);
    }

    public int loss(int wire, int current) {
        if (!isWire(wire)) {
            return UNKNOWN;
        }
        if (!isWithin(current, 1, 100)) {
            return OUTSIDE;
        }
        if (!allWires.isLaid(wire)) {
            return STATE;
        }
        return dividedUp(20 * current * allWires.wayLength[wire], allWires.thickness[wire]);
    }

    public int clashes() {
        int clashing = 0;
        for (int wire = 0; wire < allWires.made; wire++) {
            if (allWires.isClashing(wire)) {
                clashing++;
            }
        }
        return clashing;
    }

    // ---- two ways, nets

    public int far(int a, int b) {
        if (!isPlace(a) || !isPlace(b)) {
            return UNKNOWN;
        }
        if (a == b) {
            return STATE;
        }
        search.open(allDucts.allBits());
        return search.leastLength(a, b);
    }

    public int two(int a, int b) {
        if (!isPlace(a) || !isPlace(b)) {
            return UNKNOWN;
        }
        if (a == b) {
            return STATE;
        }
        return search.leastLengthOfTwo(a, b);
    }

    public int net(int set) {
        if (!isNetOfPlaces(set)) {
            return OUTSIDE;
        }
        splices.compare(set);
        return splices.least == Splices.NO_NET ? NONE : splices.least;
    }

    public int splice(int set) {
        if (!isNetOfPlaces(set)) {
            return OUTSIDE;
        }
        splices.compare(set);
        return splices.firstNeeded(set);
    }

    // ---- options, orders

    public int option(int wire, int set) {
        if (!isWire(wire)) {
            return UNKNOWN;
        }
        if (!isWithin(set, 0, OPTION_SETS - 1)) {
            return OUTSIDE;
        }
        int was = allWires.options[wire];
        allWires.options[wire] = set;
        allOrders.stale = true;
        return was;
    }

    public int order(int set, int pieces) {
        if (!isWithin(set, 0, OPTION_SETS - 1) || !isWithin(pieces, 1, 1000)) {
            return OUTSIDE;
        }
        if (allOrders.made >= MOST_ORDERS) {
            return FULL;
        }
        return allOrders.add(set, pieces);
    }

    public int setup(int n) {
        if (!isWithin(n, 0, 100000)) {
            return OUTSIDE;
        }
        int was = allOrders.setupCost;
        allOrders.setupCost = n;
        allOrders.stale = true;
        return was;
    }

    public int weight(int orders) {
        if ((orders & ~allOrders.allBits()) != 0) {
            return UNKNOWN;
        }
        return allWires.weightOf(allOrders.wiresFor(orders));
    }

    public long best() {
        return allOrders.bestCost();
    }

    public int loom(int order) {
        if (!isWithin(order, 0, allOrders.made - 1)) {
            return UNKNOWN;
        }
        return allOrders.loomOf(order);
    }

    public int alike() {
        int found = 0;
        for (int order = 0; order < allOrders.made; order++) {
            if (allOrders.hasTwin(order)) {
                found++;
            }
        }
        return found;
    }

    // ---- tests

    public int pin(int pin, int net) {
        if (!isPin(pin) || !isNet(net)) {
            return UNKNOWN;
        }
        int was = allPins.netOf[pin];
        allPins.netOf[pin] = net;
        return was;
    }

    public int tests() {
        return allPins.testsNeeded();
    }

    public int side(int test, int pin) {
        if (!isPin(pin)) {
            return UNKNOWN;
        }
        if (!isWithin(test, 0, allPins.testsNeeded() - 1)) {
            return OUTSIDE;
        }
        return allPins.netOf[pin] >> test & 1;
    }

    public int shows(int one, int other) {
        if (!isNet(one) || !isNet(other)) {
            return UNKNOWN;
        }
        if (!allPins.isUsed(one) || !allPins.isUsed(other)) {
            return UNKNOWN;
        }
        if (one == other) {
            return STATE;
        }
        return one ^ other;
    }

    public int pairs(int tests) {
        return allPins.pairsUnlikeJustIn(tests);
    }

    public int count(int what) {
        switch (what) {
            case 0:
                return allDucts.made;
            case 1:
                return allWires.made;
            case 2:
                return allWires.laid();
            case 3:
                return allOrders.made;
            case 4:
                return Integer.bitCount(allPins.usedNets());
            case 5:
                return allWires.laidLength();
            default:
                return OUTSIDE;
        }
    }

    private static boolean isWithin(int n, int least, int most) {
        return n >= least && n <= most;
    }

    private static boolean isPlace(int place) {
        return isWithin(place, 0, PLACES - 1);
    }

    private static boolean isKind(int kind) {
        return isWithin(kind, 0, KINDS - 1);
    }

    private static boolean isPin(int pin) {
        return isWithin(pin, 0, PINS - 1);
    }

    private static boolean isNet(int net) {
        return isWithin(net, 0, NETS - 1);
    }

    private static boolean isNetOfPlaces(int set) {
        return isWithin(set, 0, (1 << PLACES) - 1) && Integer.bitCount(set) >= 2;
    }

    private static boolean has(int set, int bit) {
        return (set >> bit & 1) == 1;
    }

    private static int dividedUp(int n, int divisor) {
        return divisor < 1 ? n : (n + divisor - 1) / divisor;
    }

    private boolean isWire(int wire) {
        return isWithin(wire, 0, allWires.made - 1);
    }

    private int openDucts(int wire) {
        int open = 0;
        for (int duct = 0; duct < allDucts.made; duct++) {
            if (allWires.mayGoThrough(wire, duct, allDucts.rooms[duct])) {
                open |= 1 << duct;
            }
        }
        return open;
    }

    /** The ducts and the places between which they lie. */
    private static final class Ducts {
        int made = 0;
        final int[] one = new int[MOST_DUCTS];
        final int[] other = new int[MOST_DUCTS];
        // Both places as bits.
        final int[] ends = new int[MOST_DUCTS];
        final int[] lengths = new int[MOST_DUCTS];
        final int[] rooms = new int[MOST_DUCTS];
        // Kept in this order so that a least tree can take ducts as they come.
        final int[] shortestFirst = new int[MOST_DUCTS];

        int add(int a, int b, int length, int room) {
            int duct = made;
            one[duct] = a;
            other[duct] = b;
            ends[duct] = 1 << a | 1 << b;
            lengths[duct] = length;
            rooms[duct] = room;
            sortIn(duct);
            made = duct + 1;
            return duct;
        }

        private void sortIn(int duct) {
            int spot = duct;
            while (spot > 0 && lengths[shortestFirst[spot - 1]] > lengths[duct]) {
                shortestFirst[spot] = shortestFirst[spot - 1];
                spot--;
            }
            shortestFirst[spot] = duct;
        }

        int allBits() {
            return (1 << made) - 1;
        }

        int across(int duct, int place) {
            return one[duct] == place ? other[duct] : one[duct];
        }
    }

    /** The wires, the ways of those that are laid, and the classes that are apart. */
    private static final class Wires {
        int made = 0;
        final int[] from = new int[MOST_WIRES];
        final int[] to = new int[MOST_WIRES];
        final int[] thickness = new int[MOST_WIRES];
        final int[] kind = new int[MOST_WIRES];
        final int[] options = new int[MOST_WIRES];
        // The ducts of the way as bits; a way has one duct at least, so 0 says: not laid.
        final int[] through = new int[MOST_WIRES];
        final int[] wayLength = new int[MOST_WIRES];
        // One row for all ways, LONGEST_WAY steps a wire.
        final int[] waySteps = new int[MOST_WIRES * LONGEST_WAY];
        final int[] apartFrom = new int[KINDS];

        int add(int start, int end, int wireThickness, int wireKind) {
            int wire = made;
            from[wire] = start;
            to[wire] = end;
            thickness[wire] = wireThickness;
            kind[wire] = wireKind;
            made = wire + 1;
            return wire;
        }

        boolean areApart(int a, int b) {
            return has(apartFrom[a], b);
        }

        void setApart(int a, int b, boolean is) {
            apartFrom[a] = is ? apartFrom[a] | 1 << b : apartFrom[a] & ~(1 << b);
            apartFrom[b] = is ? apartFrom[b] | 1 << a : apartFrom[b] & ~(1 << a);
        }

        boolean isLaid(int wire) {
            return through[wire] != 0;
        }

        void putThrough(int wire, int[] steps, int stepCount, int length) {
            int bits = 0;
            for (int i = 0; i < stepCount && i < LONGEST_WAY; i++) {
                waySteps[wire * LONGEST_WAY + i] = steps[i];
                bits |= 1 << steps[i];
            }
            through[wire] = bits;
            wayLength[wire] = length;
        }

        void takeOut(int wire) {
            through[wire] = 0;
            wayLength[wire] = 0;
        }

        int step(int wire, int i) {
            if (i < 0 || i >= Integer.bitCount(through[wire])) {
                return NONE;
            }
            return waySteps[wire * LONGEST_WAY + i];
        }

        boolean mayGoThrough(int wire, int duct, int room) {
            int load = thickness[wire];
            for (int laid = 0; laid < made; laid++) {
                if (has(through[laid], duct)) {
                    if (areApart(kind[wire], kind[laid])) {
                        return false;
                    }
                    load += thickness[laid];
                }
            }
            return load <= room;
        }

        int laidThrough(int duct) {
            int found = 0;
            for (int wire = 0; wire < made; wire++) {
                if (has(through[wire], duct)) {
                    found++;
                }
            }
            return found;
        }

        int thicknessThrough(int duct) {
            int sum = 0;
            for (int wire = 0; wire < made; wire++) {
                if (has(through[wire], duct)) {
                    sum += thickness[wire];
                }
            }
            return sum;
        }

        boolean isClashing(int wire) {
            for (int beside = 0; beside < made; beside++) {
                boolean shareDuct = (through[wire] & through[beside]) != 0;
                if (shareDuct && areApart(kind[wire], kind[beside])) {
                    return true;
                }
            }
            return false;
        }

        int laid() {
            int found = 0;
            for (int wire = 0; wire < made; wire++) {
                if (isLaid(wire)) {
                    found++;
                }
            }
            return found;
        }

        int laidLength() {
            int sum = 0;
            for (int wire = 0; wire < made; wire++) {
                sum += wayLength[wire];
            }
            return sum;
        }

        int neededWith(int optionSet) {
            int needed = 0;
            for (int wire = 0; wire < made; wire++) {
                if ((options[wire] & ~optionSet) == 0) {
                    needed |= 1 << wire;
                }
            }
            return needed;
        }

        int weightOf(int wireSet) {
            int sum = 0;
            for (int wire = 0; wire < made; wire++) {
                if (has(wireSet, wire)) {
                    sum += thickness[wire];
                }
            }
            return sum;
        }
    }

    /** Shortest ways over ducts that each have a price for each direction. */
    private static final class Search {
        // A price tells lengths first and then ducts: a sum never has as many as 32 ducts.
        private static final int PER_LENGTH = 32;
        private static final int BLOCKED = 1000000;

        private final Ducts ducts;
        private final int[] priceForth = new int[MOST_DUCTS];
        private final int[] priceBack = new int[MOST_DUCTS];
        // What is left to pay from each place to the goal.
        private final int[] toGoal = new int[PLACES];
        final int[] steps = new int[LONGEST_WAY];
        int stepCount = 0;

        Search(Ducts ducts) {
            this.ducts = ducts;
        }

        void open(int ductSet) {
            for (int duct = 0; duct < ducts.made; duct++) {
                int price = has(ductSet, duct) ? ducts.lengths[duct] * PER_LENGTH + 1 : BLOCKED;
                priceForth[duct] = price;
                priceBack[duct] = price;
            }
        }

        int leastLength(int start, int goal) {
            spread(goal);
            return toGoal[start] == BLOCKED ? NONE : toGoal[start] / PER_LENGTH;
        }

        int leastLengthOfTwo(int start, int goal) {
            open(ducts.allBits());
            spread(goal);
            if (toGoal[start] == BLOCKED) {
                return NONE;
            }
            int first = toGoal[start];
            walk(start, goal);
            turnSteps(start);
            spread(goal);
            if (toGoal[start] == BLOCKED) {
                return NONE;
            }
            return (first + toGoal[start]) / PER_LENGTH;
        }

        // Needs what leastLength left behind for the same goal.
        void walk(int start, int goal) {
            stepCount = 0;
            int at = start;
            while (at != goal && stepCount < LONGEST_WAY) {
                int duct = firstStep(at);
                if (duct == NONE) {
                    return;
                }
                steps[stepCount] = duct;
                stepCount++;
                at = ducts.across(duct, at);
            }
        }

        // The least number at each step gives the first way of those that are as short.
        private int firstStep(int at) {
            for (int duct = 0; duct < ducts.made; duct++) {
                int price = priceFrom(duct, at);
                if (price != BLOCKED && toGoal[at] == price + toGoal[ducts.across(duct, at)]) {
                    return duct;
                }
            }
            return NONE;
        }

        private int priceFrom(int duct, int at) {
            if (ducts.one[duct] == at) {
                return priceForth[duct];
            }
            return ducts.other[duct] == at ? priceBack[duct] : BLOCKED;
        }

        // Where a second way goes back through a duct of the first one, neither needs it, so that
        // direction gives its price back; the first way's own direction is taken.
        private void turnSteps(int start) {
            int at = start;
            for (int i = 0; i < stepCount; i++) {
                int duct = steps[i];
                boolean wentForth = ducts.one[duct] == at;
                int refund = -(wentForth ? priceForth[duct] : priceBack[duct]);
                priceForth[duct] = wentForth ? BLOCKED : refund;
                priceBack[duct] = wentForth ? refund : BLOCKED;
                at = ducts.across(duct, at);
            }
        }

        private void spread(int goal) {
            Arrays.fill(toGoal, BLOCKED);
            toGoal[goal] = 0;
            boolean changed = true;
            for (int round = 0; round < LONGEST_WAY && changed; round++) {
                changed = false;
                for (int duct = 0; duct < ducts.made; duct++) {
                    boolean forth = lower(ducts.one[duct], ducts.other[duct], priceForth[duct]);
                    boolean back = lower(ducts.other[duct], ducts.one[duct], priceBack[duct]);
                    changed = changed || forth || back;
                }
            }
        }

        private boolean lower(int place, int next, int price) {
            if (price == BLOCKED || toGoal[next] == BLOCKED) {
                return false;
            }
            int sum = price + toGoal[next];
            if (sum >= toGoal[place]) {
                return false;
            }
            toGoal[place] = sum;
            return true;
        }
    }

    /** Nets of places: the least tree over each choice of places between them is looked at. */
    private static final class Splices {
        static final int NO_NET = 1000000;

        private final Ducts ducts;
        private final int[] joinedTo = new int[PLACES];
        private final int[] leastWithout = new int[PLACES];
        int least = NO_NET;

        Splices(Ducts ducts) {
            this.ducts = ducts;
        }

        // One pass serves both questions: a net without a place is one of a choice without it.
        void compare(int set) {
            least = NO_NET;
            Arrays.fill(leastWithout, NO_NET);
            for (int chosen = 0; chosen < 1 << PLACES; chosen++) {
                if ((chosen & set) == set) {
                    note(chosen, treeLength(chosen));
                }
            }
        }

        int firstNeeded(int set) {
            if (least == NO_NET) {
                return NONE;
            }
            for (int place = 0; place < PLACES; place++) {
                if (!has(set, place) && leastWithout[place] > least) {
                    return place;
                }
            }
            return NONE;
        }

        private void note(int chosen, int length) {
            if (length == NO_NET) {
                return;
            }
            least = Math.min(least, length);
            for (int place = 0; place < PLACES; place++) {
                if (!has(chosen, place) && length < leastWithout[place]) {
                    leastWithout[place] = length;
                }
            }
        }

        private int treeLength(int chosen) {
            for (int place = 0; place < PLACES; place++) {
                joinedTo[place] = place;
            }
            int missing = Integer.bitCount(chosen) - 1;
            int length = 0;
            for (int i = 0; i < ducts.made && missing > 0; i++) {
                int duct = ducts.shortestFirst[i];
                if (joins(duct, chosen)) {
                    length += ducts.lengths[duct];
                    missing--;
                }
            }
            return missing == 0 ? length : NO_NET;
        }

        private boolean joins(int duct, int chosen) {
            if ((ducts.ends[duct] & ~chosen) != 0) {
                return false;
            }
            int one = headOf(ducts.one[duct]);
            int other = headOf(ducts.other[duct]);
            joinedTo[one] = other;
            return one != other;
        }

        private int headOf(int place) {
            int head = place;
            for (int i = 0; i < PLACES && joinedTo[head] != head; i++) {
                head = joinedTo[head];
            }
            return head;
        }
    }

    /** The orders, and the best plan of looms for them. */
    private static final class Orders {
        private static final int LOOM_BITS = 3;
        private static final int ONE_LOOM = MOST_ORDERS * LOOM_BITS;
        private static final int ONE_COST = ONE_LOOM + 4;

        int made = 0;
        int setupCost = 1000;
        // Whether the plan must be made anew before it is asked for.
        boolean stale = true;
        private final Wires wires;
        private final int[] options = new int[MOST_ORDERS];
        private final int[] pieces = new int[MOST_ORDERS];
        // Rows by sets of orders.
        private final int[] wireSets = new int[ORDER_SETS];
        private final int[] pieceSums = new int[ORDER_SETS];
        private final int[] loomCosts = new int[ORDER_SETS];
        private final int[] oneLoomUp = new int[ORDER_SETS];
        // The best plan of a set as one number that compares as plans do: its cost, its looms,
        // and each order's loom, order 0 first.
        private final long[] plans = new long[ORDER_SETS];

        Orders(Wires wires) {
            this.wires = wires;
        }

        int add(int optionSet, int pieceCount) {
            int order = made;
            options[order] = optionSet;
            pieces[order] = pieceCount;
            made = order + 1;
            stale = true;
            return order;
        }

        int allBits() {
            return (1 << made) - 1;
        }

        int wiresFor(int orderSet) {
            int needed = 0;
            for (int order = 0; order < made; order++) {
                if (has(orderSet, order)) {
                    needed |= wires.neededWith(options[order]);
                }
            }
            return needed;
        }

        boolean hasTwin(int order) {
            int needed = wires.neededWith(options[order]);
            for (int twin = 0; twin < made; twin++) {
                if (twin != order && wires.neededWith(options[twin]) == needed) {
                    return true;
                }
            }
            return false;
        }

        long bestCost() {
            refresh();
            return plans[allBits()] >> ONE_COST;
        }

        int loomOf(int order) {
            refresh();
            return (int) (plans[allBits()] >> loomShift(order)) & (1 << LOOM_BITS) - 1;
        }

        private static int loomShift(int order) {
            return (MOST_ORDERS - 1 - order) * LOOM_BITS;
        }

        private void refresh() {
            if (!stale) {
                return;
            }
            gatherSums();
            int sets = 1 << made;
            for (int set = 1; set < sets; set++) {
                int weight = wires.weightOf(wireSets[set]);
                loomCosts[set] = setupCost + pieceSums[set] * weight;
            }
            plans[0] = 0;
            for (int set = 1; set < sets; set++) {
                plans[set] = leastPlan(set);
            }
            stale = false;
        }

        private void gatherSums() {
            for (int order = 0; order < made; order++) {
                int bit = 1 << order;
                int needed = wires.neededWith(options[order]);
                for (int set = 0; set < bit; set++) {
                    wireSets[set | bit] = wireSets[set] | needed;
                    pieceSums[set | bit] = pieceSums[set] + pieces[order];
                    oneLoomUp[set | bit] = oneLoomUp[set] + (1 << loomShift(order));
                }
            }
        }

        // Loom 0 is the first order's, with some of the others beside it; the rest keep the best
        // plan of their own, each loom's number one higher.
        private long leastPlan(int set) {
            int first = set & -set;
            int others = set ^ first;
            int choices = 1 << Integer.bitCount(others);
            int beside = others;
            long least = Long.MAX_VALUE;
            for (int choice = 0; choice < choices; choice++) {
                int rest = others ^ beside;
                long cost = (long) loomCosts[first | beside] << ONE_COST;
                long plan = cost + (1L << ONE_LOOM) + plans[rest] + oneLoomUp[rest];
                least = Math.min(least, plan);
                beside = (beside - 1) & others;
            }
            return least;
        }
    }

    /** The pins, the nets in which they are, and the tests that part those nets. */
    private static final class Pins {
        final int[] netOf = new int[PINS];

        int usedNets() {
            int used = 0;
            for (int pin = 0; pin < PINS; pin++) {
                used |= 1 << netOf[pin];
            }
            return used;
        }

        boolean isUsed(int net) {
            return has(usedNets(), net);
        }

        int testsNeeded() {
            int unlike = 0;
            for (int pin = 1; pin < PINS; pin++) {
                unlike |= netOf[pin] ^ netOf[0];
            }
            int needed = 0;
            for (int bit = 0; bit < NET_BITS; bit++) {
                if (has(unlike, bit)) {
                    needed = bit + 1;
                }
            }
            return needed;
        }

        int pairsUnlikeJustIn(int bits) {
            int used = usedNets();
            int found = 0;
            for (int one = 0; one < NETS; one++) {
                for (int other = one + 1; other < NETS; other++) {
                    if (has(used, one) && has(used, other) && (one ^ other) == bits) {
                        found++;
                    }
                }
            }
            return found;
        }
    }
}
