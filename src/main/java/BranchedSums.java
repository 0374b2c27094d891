/**
 * Branching on what goes into a knapsack: a search over nodes that fix things in or out.
 *
 * Sets of things are bits of an int, the thing t by the bit t. All rows are made with the
 * object and used again, so that no later call makes any object.
 */
public final class BranchedSums {
    public static final int UNKNOWN = -1;
    public static final int BAD_VALUE = -2;
    public static final int FULL = -3;
    public static final int NOT_POSSIBLE = -4;
    public static final int NONE = -5;

    private static final int MOST_THINGS = 12;
    private static final int MOST_WORTH = 99;
    private static final int MOST_WEIGHT = 50;
    private static final int MOST_ROOM = 200;
    private static final int FIRST_ROOM = 30;
    private static final int MOST_NODES = 400;
    private static final int MOST_STEPS = 200;
    private static final int MOST_STATES = 4;
    private static final int MOST_CHARACTERS = 80;
    private static final int LAST_BAR = 10;
    private static final int NO_FAULT = -1;
    private static final int FAULTS = -100;

    private static final int ORDER = 0;
    private static final int CHOICE = 1;
    private static final int LAST_SETTING = 2;

    private static final int NEWEST_FIRST = 0;
    private static final int GREATEST_FIRST = 1;

    private static final int HEAVIEST = 1;
    private static final int BY_TRIALS = 2;

    private static final int OPEN = 0;
    private static final int CUT_AS_TAKEN = 1;
    private static final int CLOSED = 2;
    private static final int CUT_AT_ONCE = 3;
    private static final int BRANCHED = 4;
    private static final int GIVEN_UP = 5;

    private final State state = new State();
    private final State before = new State();
    private final State snapshot = new State();
    private final History history = new History();
    private final Text text = new Text();
    private boolean hasSnapshot;

    public BranchedSums() {
    }

    // ---- things

    public int add(int worth, int weight) {
        if (!isWithin(worth, 1, MOST_WORTH) || !isWithin(weight, 1, MOST_WEIGHT)) {
            return BAD_VALUE;
        }
        if (state.goesOn()) {
            return NOT_POSSIBLE;
        }
        if (state.bag.size >= MOST_THINGS) {
            return FULL;
        }
        prepareForChange();
        state.bag.append(worth, weight, 0);
        return state.bag.size - 1;
    }

    public int addAll() {
        int fault = text.read();
        if (fault != NO_FAULT) {
            return FAULTS - fault;
        }
        if (state.goesOn()) {
            return NOT_POSSIBLE;
        }
        if (state.bag.size + text.things > MOST_THINGS) {
            return FULL;
        }
        if (text.barsTooFar(state.bag.size)) {
            return UNKNOWN;
        }
        prepareForChange();
        for (int place = 0; place < text.things; place++) {
            state.bag.append(at(text.worths, place), at(text.weights, place), at(text.bars, place));
        }
        return state.bag.size;
    }

    public int remove(int thing) {
        if (!state.bag.knows(thing)) {
            return UNKNOWN;
        }
        if (state.goesOn()) {
            return NOT_POSSIBLE;
        }
        prepareForChange();
        state.bag.drop(thing);
        return state.bag.size;
    }

    public int bar(int one, int other, boolean bar) {
        if (!state.bag.knows(one) || !state.bag.knows(other)) {
            return UNKNOWN;
        }
        if (one == other) {
            return BAD_VALUE;
        }
        if (state.goesOn()) {
            return NOT_POSSIBLE;
        }
        if (has(at(state.bag.bars, one), other) == bar) {
            return NONE;
        }
        prepareForChange();
        state.bag.turnBar(one, other);
        return state.bag.pairs();
    }

    public int setRoom(int room) {
        if (!isWithin(room, 0, MOST_ROOM)) {
            return BAD_VALUE;
        }
        if (state.goesOn()) {
            return NOT_POSSIBLE;
        }
        int previous = state.bag.room;
        if (room == previous) {
            return NONE;
        }
        prepareForChange();
        state.bag.room = room;
        return previous;
    }

    // ---- search

    public int set(int which, int value) {
        if (!isWithin(which, ORDER, CHOICE)) {
            return UNKNOWN;
        }
        if (!isWithin(value, 0, LAST_SETTING)) {
            return BAD_VALUE;
        }
        int previous = which == ORDER ? state.order : state.choice;
        if (value == previous) {
            return NONE;
        }
        history.push(state);
        if (which == ORDER) {
            state.order = value;
        } else {
            state.choice = value;
        }
        return previous;
    }

    public int begin() {
        if (state.goesOn()) {
            return NOT_POSSIBLE;
        }
        history.push(state);
        state.openRoot();
        return state.nodes.bound(0);
    }

    public int step(int steps) {
        if (!isWithin(steps, 1, MOST_STEPS)) {
            return BAD_VALUE;
        }
        return goThrough(steps, state.order, false);
    }

    public int dive() {
        return goThrough(MOST_NODES, NEWEST_FIRST, true);
    }

    public int giveUp() {
        int open = state.nodes.countOf(OPEN);
        if (open == 0) {
            return NONE;
        }
        history.push(state);
        state.nodes.giveUpOpen();
        return open;
    }

    // ---- texts

    public int type(char character) {
        if (text.length >= MOST_CHARACTERS) {
            return FULL;
        }
        text.append(character);
        return text.length;
    }

    public int clearText() {
        int previous = text.length;
        text.length = 0;
        return previous;
    }

    // ---- history

    public int undo() {
        if (history.size == 0) {
            return NONE;
        }
        history.pop(state);
        return history.size;
    }

    public int keep() {
        snapshot.copyFrom(state);
        hasSnapshot = true;
        return state.bag.size;
    }

    public int restore() {
        if (!hasSnapshot) {
            return NONE;
        }
        history.push(state);
        state.copyFrom(snapshot);
        return state.bag.size;
    }

    // ---- what is told

    public int thing(int thing, int what) {
        if (!state.bag.knows(thing)) {
            return UNKNOWN;
        }
        switch (what) {
            case 0: return at(state.bag.worths, thing);
            case 1: return at(state.bag.weights, thing);
            case 2: return state.bag.placeOf(thing);
            case 3: return at(state.bag.bars, thing);
            case 4: return has(state.best, thing) ? 1 : 0;
            default: return BAD_VALUE;
        }
    }

    public int node(int node, int what) {
        Nodes nodes = state.nodes;
        if (!nodes.knows(node)) {
            return UNKNOWN;
        }
        switch (what) {
            case 0: return node == 0 ? NONE : nodes.from(node);
            case 1: return node == 0 ? NONE : nodes.fixed(node);
            case 2: return has(nodes.in(node), nodes.fixed(node)) ? 1 : 0;
            case 3: return nodes.bound(node);
            case 4: return nodes.how(node);
            case 5: return Integer.bitCount(nodes.in(node) | nodes.out(node));
            case 6: return nodes.in(node);
            case 7: return nodes.out(node);
            default: return BAD_VALUE;
        }
    }

    public int next() {
        return state.nodes.nextOpen(state.order);
    }

    public int branchOf(int node, int choice) {
        Nodes nodes = state.nodes;
        if (!nodes.knows(node) || !state.bag.isPossible(nodes.in(node))) {
            return UNKNOWN;
        }
        if (!isWithin(choice, 0, LAST_SETTING)) {
            return BAD_VALUE;
        }
        return state.bag.thingToBranch(nodes.in(node), nodes.out(node), choice);
    }

    public int boundOf(int in, int out) {
        if (!state.bag.canFix(in, out)) {
            return BAD_VALUE;
        }
        return state.bag.bound(in, out);
    }

    public int heelOf(int in, int out) {
        if (!state.bag.canFix(in, out)) {
            return BAD_VALUE;
        }
        return state.bag.isPossible(in) ? state.bag.heel(in, out) : NOT_POSSIBLE;
    }

    public int bestSum() {
        return bestFrom(state.bag, 0, 0, state.bag.room);
    }

    public int count(int what) {
        switch (what) {
            case 0: return state.bag.size;
            case 1: return state.bag.room;
            case 2: return state.bag.pairs();
            case 3: return state.order;
            case 4: return state.choice;
            case 15: return history.size;
            case 16: return text.length;
            default: return countOfSearch(what);
        }
    }

    private int countOfSearch(int what) {
        boolean begun = state.nodes.made > 0;
        switch (what) {
            case 5: return state.goesOn() ? 1 : 0;
            case 6: return state.nodes.made;
            case 7: return state.nodes.countOf(OPEN);
            case 8: return begun ? state.sum : NONE;
            case 9: return begun ? state.best : NONE;
            case 10: return begun ? state.gap() : NONE;
            case 11: return state.steps;
            case 12: return state.nodes.countOf(CUT_AS_TAKEN);
            case 13: return state.nodes.countOf(CLOSED);
            case 14: return state.nodes.countOf(CUT_AT_ONCE);
            default: return BAD_VALUE;
        }
    }

    /** Every change of things, bars or room is an act, and forgets the search that is over. */
    private void prepareForChange() {
        history.push(state);
        state.forgetSearch();
    }

    /**
     * Does steps while nodes are open. Whether a later step runs out of nodes shows only when
     * it is reached, so the state is put aside first, and put back if one does.
     */
    private int goThrough(int steps, int order, boolean untilEnd) {
        if (!state.goesOn()) {
            return NOT_POSSIBLE;
        }
        before.copyFrom(state);
        int done = 0;
        boolean more = true;
        while (more && done < steps) {
            int how = state.takeStep(order);
            if (how == FULL) {
                state.copyFrom(before);
                return FULL;
            }
            done++;
            more = state.goesOn() && !(untilEnd && how != BRANCHED);
        }
        history.push(before);
        return done;
    }

    /** Tries each thing from this one on, left out and taken; leans on no bound and no order. */
    private static int bestFrom(Bag bag, int thing, int barred, int left) {
        if (thing < 0 || thing >= bag.size) {
            return 0;
        }
        int without = bestFrom(bag, thing + 1, barred, left);
        int weight = at(bag.weights, thing);
        if (weight > left || has(barred, thing)) {
            return without;
        }
        int with = bestFrom(bag, thing + 1, barred | at(bag.bars, thing), left - weight);
        return Math.max(without, at(bag.worths, thing) + with);
    }

    private static boolean isWithin(int value, int least, int most) {
        return value >= least && value <= most;
    }

    private static boolean has(int set, int thing) {
        return (set >> thing & 1) == 1;
    }

    private static int at(int[] row, int index) {
        return index >= 0 && index < row.length ? row[index] : 0;
    }

    private static void put(int[] row, int index, int value) {
        if (index >= 0 && index < row.length) {
            row[index] = value;
        }
    }

    private static int sumOf(int[] row, int set) {
        int sum = 0;
        for (int thing = 0; thing < row.length; thing++) {
            if ((set & 1 << thing) != 0) {
                sum += row[thing];
            }
        }
        return sum;
    }

    private static void copyRow(int[] from, int[] to) {
        System.arraycopy(from, 0, to, 0, Math.min(from.length, to.length));
    }

    /** The things with their bars, the room, and what follows from them for a node. */
    private static final class Bag {
        final int[] worths = new int[MOST_THINGS];
        final int[] weights = new int[MOST_THINGS];
        final int[] bars = new int[MOST_THINGS];
        final int[] byRatio = new int[MOST_THINGS];
        int size;
        int room = FIRST_ROOM;

        void copyFrom(Bag other) {
            copyRow(other.worths, worths);
            copyRow(other.weights, weights);
            copyRow(other.bars, bars);
            copyRow(other.byRatio, byRatio);
            size = other.size;
            room = other.room;
        }

        boolean knows(int thing) {
            return thing >= 0 && thing < size;
        }

        void append(int worth, int weight, int barred) {
            if (size >= MOST_THINGS) {
                return;
            }
            int thing = size;
            size++;
            put(worths, thing, worth);
            put(weights, thing, weight);
            put(bars, thing, 0);
            for (int other = 0; other < thing; other++) {
                if (has(barred, other)) {
                    turnBar(thing, other);
                }
            }
            sortByRatio();
        }

        void drop(int thing) {
            for (int behind = thing + 1; behind < size; behind++) {
                put(worths, behind - 1, at(worths, behind));
                put(weights, behind - 1, at(weights, behind));
                put(bars, behind - 1, at(bars, behind));
            }
            size--;
            int ahead = (1 << thing) - 1;
            for (int other = 0; other < size; other++) {
                int barred = at(bars, other);
                put(bars, other, barred & ahead | barred >> 1 & ~ahead);
            }
            sortByRatio();
        }

        void turnBar(int one, int other) {
            put(bars, one, at(bars, one) ^ 1 << other);
            put(bars, other, at(bars, other) ^ 1 << one);
        }

        int pairs() {
            int sides = 0;
            for (int thing = 0; thing < size; thing++) {
                sides += Integer.bitCount(at(bars, thing));
            }
            return sides / 2;
        }

        /** Things go in from the lowest on, so those of the same ratio stay lowest first. */
        private void sortByRatio() {
            for (int thing = 0; thing < size; thing++) {
                int place = thing;
                while (place > 0 && isAhead(thing, at(byRatio, place - 1))) {
                    put(byRatio, place, at(byRatio, place - 1));
                    place--;
                }
                put(byRatio, place, thing);
            }
        }

        /** Compares worth by weight crosswise: as fractions, without rounding. */
        private boolean isAhead(int one, int other) {
            return at(worths, one) * at(weights, other) > at(worths, other) * at(weights, one);
        }

        int placeOf(int thing) {
            for (int place = 0; place < size; place++) {
                if (at(byRatio, place) == thing) {
                    return place;
                }
            }
            return NONE;
        }

        boolean canFix(int in, int out) {
            int noThings = -1 << size;
            return ((in | out) & noThings) == 0 && (in & out) == 0;
        }

        boolean isPossible(int in) {
            return sumOf(weights, in) <= room && (barredBy(in) & in) == 0;
        }

        private int barredBy(int set) {
            int barred = 0;
            for (int thing = 0; thing < bars.length; thing++) {
                if ((set & 1 << thing) != 0) {
                    barred |= bars[thing];
                }
            }
            return barred;
        }

        /** Those that count as out beside the things that are in are not among the free ones. */
        private int freeThings(int in, int out) {
            int left = room - sumOf(weights, in);
            int shut = in | out | barredBy(in);
            int free = 0;
            for (int thing = 0; thing < size; thing++) {
                if (!has(shut, thing) && at(weights, thing) <= left) {
                    free |= 1 << thing;
                }
            }
            return free;
        }

        int bound(int in, int out) {
            if (!isPossible(in)) {
                return NOT_POSSIBLE;
            }
            int free = freeThings(in, out);
            int taken = in | wholeThings(in, free);
            int broken = firstByRatio(free & ~taken);
            return sumOf(worths, taken) + shareOf(broken, room - sumOf(weights, taken));
        }

        /** The free things that fit whole one behind the other, up to the first that does not. */
        private int wholeThings(int in, int free) {
            int left = room - sumOf(weights, in);
            int whole = 0;
            for (int place = 0; place < size; place++) {
                int thing = at(byRatio, place);
                if (has(free, thing)) {
                    left -= at(weights, thing);
                    if (left < 0) {
                        return whole;
                    }
                    whole |= 1 << thing;
                }
            }
            return whole;
        }

        private int firstByRatio(int set) {
            for (int place = 0; place < size; place++) {
                int thing = at(byRatio, place);
                if (has(set, thing)) {
                    return thing;
                }
            }
            return NONE;
        }

        private int shareOf(int thing, int left) {
            int weight = at(weights, thing);
            return weight > 0 ? at(worths, thing) * left / weight : 0;
        }

        int heel(int in, int out) {
            int free = freeThings(in, out);
            int left = room - sumOf(weights, in);
            int heel = in;
            for (int place = 0; place < size; place++) {
                int thing = at(byRatio, place);
                boolean fits = has(free, thing) && at(weights, thing) <= left;
                if (fits && (at(bars, thing) & heel) == 0) {
                    heel |= 1 << thing;
                    left -= at(weights, thing);
                }
            }
            return heel;
        }

        int thingToBranch(int in, int out, int choice) {
            int free = freeThings(in, out);
            if (choice == HEAVIEST) {
                return heaviest(free);
            }
            if (choice == BY_TRIALS) {
                return bestByTrials(in, out, free);
            }
            int thing = firstByRatio(free & ~wholeThings(in, free));
            if (thing == NONE) {
                thing = firstByRatio(free & ~heel(in, out));
            }
            return thing == NONE ? firstByRatio(free) : thing;
        }

        private int heaviest(int free) {
            int found = NONE;
            for (int thing = 0; thing < size; thing++) {
                if (has(free, thing) && (found == NONE || at(weights, thing) > at(weights, found))) {
                    found = thing;
                }
            }
            return found;
        }

        private int bestByTrials(int in, int out, int free) {
            int found = NONE;
            int leastGreater = 0;
            int leastLesser = 0;
            for (int thing = 0; thing < size; thing++) {
                if (!has(free, thing)) {
                    continue;
                }
                int with = Math.max(bound(in | 1 << thing, out), 0);
                int without = Math.max(bound(in, out | 1 << thing), 0);
                int greater = Math.max(with, without);
                int lesser = Math.min(with, without);
                boolean better = greater < leastGreater || greater == leastGreater && lesser < leastLesser;
                if (found == NONE || better) {
                    found = thing;
                    leastGreater = greater;
                    leastLesser = lesser;
                }
            }
            return found;
        }
    }

    /**
     * The nodes of a search. A node is one long, so that a state stays small and is copied
     * fast: five parts of 12 bits, and the 4 bits above them for the thing that it fixes.
     */
    private static final class Nodes {
        private static final int WIDTH = 12;
        private static final int PART = (1 << WIDTH) - 1;
        private static final int HOW = 0;
        private static final int FROM = WIDTH;
        private static final int BOUND = 2 * WIDTH;
        private static final int IN = 3 * WIDTH;
        private static final int OUT = 4 * WIDTH;
        private static final int FIXED = 5 * WIDTH;

        private final long[] packed = new long[MOST_NODES];
        int made;

        void copyFrom(Nodes other) {
            int most = Math.min(packed.length, other.packed.length);
            made = Math.max(0, Math.min(other.made, most));
            System.arraycopy(other.packed, 0, packed, 0, made);
        }

        boolean knows(int node) {
            return node >= 0 && node < made;
        }

        void append(int from, int fixed, int in, int out, int bound, int how) {
            if (made >= 0 && made < packed.length) {
                packed[made] = (long) fixed << FIXED | (long) out << OUT | (long) in << IN
                        | (long) bound << BOUND | (long) from << FROM | (long) how << HOW;
                made++;
            }
        }

        private int part(int node, int shift) {
            return node >= 0 && node < packed.length ? (int) (packed[node] >>> shift) & PART : 0;
        }

        int how(int node) {
            return part(node, HOW);
        }

        int from(int node) {
            return part(node, FROM);
        }

        int bound(int node) {
            return part(node, BOUND);
        }

        int in(int node) {
            return part(node, IN);
        }

        int out(int node) {
            return part(node, OUT);
        }

        int fixed(int node) {
            return part(node, FIXED);
        }

        void settle(int node, int how) {
            if (node >= 0 && node < packed.length) {
                packed[node] = packed[node] & ~((long) PART << HOW) | (long) how << HOW;
            }
        }

        void giveUpOpen() {
            for (int node = 0; node < made; node++) {
                if (how(node) == OPEN) {
                    settle(node, GIVEN_UP);
                }
            }
        }

        int countOf(int how) {
            int found = 0;
            for (int node = 0; node < made; node++) {
                if (how(node) == how) {
                    found++;
                }
            }
            return found;
        }

        int nextOpen(int order) {
            int found = NONE;
            for (int node = 0; node < made; node++) {
                if (how(node) == OPEN && (found == NONE || goesBefore(node, found, order))) {
                    found = node;
                }
            }
            return found;
        }

        private boolean goesBefore(int newer, int older, int order) {
            if (order == GREATEST_FIRST) {
                return bound(newer) > bound(older);
            }
            return order == NEWEST_FIRST;
        }
    }

    /** All that undo and the snapshot bring back: things, settings and the search. */
    private static final class State {
        final Bag bag = new Bag();
        final Nodes nodes = new Nodes();
        int order;
        int choice;
        int steps;
        int sum;
        int best;

        void copyFrom(State other) {
            bag.copyFrom(other.bag);
            nodes.copyFrom(other.nodes);
            order = other.order;
            choice = other.choice;
            steps = other.steps;
            sum = other.sum;
            best = other.best;
        }

        boolean goesOn() {
            return nodes.nextOpen(NEWEST_FIRST) != NONE;
        }

        void forgetSearch() {
            nodes.made = 0;
            steps = 0;
            sum = 0;
            best = 0;
        }

        void openRoot() {
            forgetSearch();
            nodes.append(0, 0, 0, 0, bag.bound(0, 0), OPEN);
        }

        int gap() {
            int node = nodes.nextOpen(GREATEST_FIRST);
            return node == NONE ? 0 : Math.max(0, nodes.bound(node) - sum);
        }

        /** Tells how the node that was taken is then, or FULL, which leaves the state half changed. */
        int takeStep(int order) {
            int node = nodes.nextOpen(order);
            steps++;
            int how = resultFor(node);
            if (how == BRANCHED) {
                if (nodes.made + 2 > MOST_NODES) {
                    return FULL;
                }
                int in = nodes.in(node);
                int out = nodes.out(node);
                int thing = bag.thingToBranch(in, out, choice);
                makeChild(node, thing, in, out | 1 << thing);
                makeChild(node, thing, in | 1 << thing, out);
            }
            nodes.settle(node, how);
            return how;
        }

        private int resultFor(int node) {
            int bound = nodes.bound(node);
            if (bound <= sum) {
                return CUT_AS_TAKEN;
            }
            int heel = bag.heel(nodes.in(node), nodes.out(node));
            int heelSum = sumOf(bag.worths, heel);
            if (heelSum > sum) {
                sum = heelSum;
                best = heel;
            }
            return bound <= heelSum ? CLOSED : BRANCHED;
        }

        private void makeChild(int from, int thing, int in, int out) {
            int bound = Math.max(bag.bound(in, out), 0);
            nodes.append(from, thing, in, out, bound, bound > sum ? OPEN : CUT_AT_ONCE);
        }
    }

    /** The latest states, in a ring, so that dropping the oldest moves nothing. */
    private static final class History {
        private final State[] ring = new State[MOST_STATES];
        private int oldest;
        int size;

        History() {
            for (int place = 0; place < ring.length; place++) {
                ring[place] = new State();
            }
        }

        void push(State state) {
            if (size >= MOST_STATES) {
                oldest = (oldest + 1) % MOST_STATES;
                size--;
            }
            State latest = stateAt(size);
            if (latest != null) {
                latest.copyFrom(state);
            }
            size++;
        }

        void pop(State state) {
            if (size <= 0) {
                return;
            }
            size--;
            State latest = stateAt(size);
            if (latest != null) {
                state.copyFrom(latest);
            }
        }

        private State stateAt(int age) {
            int place = (oldest + age) % MOST_STATES;
            return place >= 0 && place < ring.length ? ring[place] : null;
        }
    }

    /** The text that is typed, and the things that were read from it last. */
    private static final class Text {
        private final char[] characters = new char[MOST_CHARACTERS];
        final int[] worths = new int[MOST_THINGS];
        final int[] weights = new int[MOST_THINGS];
        final int[] bars = new int[MOST_THINGS];
        int length;
        int things;
        private int place;

        void append(char character) {
            if (length >= 0 && length < characters.length) {
                characters[length] = character;
                length++;
            }
        }

        /** Tells the fault, or NO_FAULT. Counts all things, but holds no more than a bag does. */
        int read() {
            place = 0;
            boolean more = true;
            for (things = 0; more && things <= length; things++) {
                if (!readThing()) {
                    return place;
                }
                more = take(';');
            }
            return place < length ? place : NO_FAULT;
        }

        private boolean readThing() {
            int worth = takeNumber(1, MOST_WORTH);
            if (worth == NONE || !take('/')) {
                return false;
            }
            int weight = takeNumber(1, MOST_WEIGHT);
            if (weight == NONE) {
                return false;
            }
            int barred = 0;
            for (int taken = 0; taken < length && take('!'); taken++) {
                int other = takeNumber(0, LAST_BAR);
                if (other == NONE) {
                    return false;
                }
                barred |= 1 << other;
            }
            put(worths, things, worth);
            put(weights, things, weight);
            put(bars, things, barred);
            return true;
        }

        private boolean take(char character) {
            boolean there = place < length && characterHere() == character;
            if (there) {
                place++;
            }
            return there;
        }

        /**
         * Stops ahead of a digit that is not allowed: no sign that may follow a number is a
         * digit, so the fault is found there by whatever is looked for next.
         */
        private int takeNumber(int least, int most) {
            int number = NONE;
            while (place < length && number != 0) {
                int digit = characterHere() - '0';
                int longer = number == NONE ? digit : number * 10 + digit;
                if (!isWithin(digit, 0, 9) || !isWithin(longer, least, most)) {
                    break;
                }
                number = longer;
                place++;
            }
            return number;
        }

        private char characterHere() {
            return place >= 0 && place < characters.length ? characters[place] : 0;
        }

        /** Whether a bar names a thing that does not come ahead, if so many things are there already. */
        boolean barsTooFar(int already) {
            for (int thing = 0; thing < things; thing++) {
                if (at(bars, thing) >> (already + thing) != 0) {
                    return true;
                }
            }
            return false;
        }
    }
}
