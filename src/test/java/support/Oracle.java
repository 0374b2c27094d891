import java.util.ArrayDeque;
import java.util.ArrayList;
import java.util.Comparator;
import java.util.Deque;
import java.util.List;
import java.util.Set;
import java.util.TreeSet;
import java.util.regex.Matcher;
import java.util.regex.Pattern;

/**
 * The document a second time, written with lists, sets and the Java library, and sharing
 * nothing with the class: what both answer to the same calls is compared.
 */
final class Oracle {
    static final int UNKNOWN = -1;
    static final int BAD_VALUE = -2;
    static final int FULL = -3;
    static final int NOT_POSSIBLE = -4;
    static final int NONE = -5;

    private static final String THING = "[1-9][0-9]?/(?:50|[1-4][0-9]?|[5-9])(?:!(?:10|[0-9]))*";
    private static final Pattern THINGS = Pattern.compile(THING + "(?:;" + THING + ")*");

    private static final class Thing {
        final int worth;
        final int weight;
        final Set<Thing> barred = new java.util.HashSet<>();

        Thing(int worth, int weight) {
            this.worth = worth;
            this.weight = weight;
        }
    }

    private static final class Node {
        final Node from;
        final int number;
        final int fixed;
        final boolean in;
        final int bound;
        int how;

        Node(Node from, int number, int fixed, boolean in, int bound, int how) {
            this.from = from;
            this.number = number;
            this.fixed = fixed;
            this.in = in;
            this.bound = bound;
            this.how = how;
        }

        int depth() {
            return from == null ? 0 : from.depth() + 1;
        }

        Set<Integer> fixedOnes(boolean taken) {
            Set<Integer> all = from == null ? new TreeSet<>() : from.fixedOnes(taken);
            if (from != null && in == taken) {
                all.add(fixed);
            }
            return all;
        }
    }

    private static final class State {
        final List<Thing> things = new ArrayList<>();
        int room = 30;
        int order;
        int choice;
        final List<Node> nodes = new ArrayList<>();
        int steps;
        Set<Integer> best = new TreeSet<>();

        State copy() {
            State copy = new State();
            for (Thing thing : things) {
                copy.things.add(new Thing(thing.worth, thing.weight));
            }
            for (int one = 0; one < things.size(); one++) {
                for (int other = 0; other < things.size(); other++) {
                    if (things.get(one).barred.contains(things.get(other))) {
                        copy.things.get(one).barred.add(copy.things.get(other));
                    }
                }
            }
            copy.room = room;
            copy.order = order;
            copy.choice = choice;
            for (Node node : nodes) {
                Node from = node.from == null ? null : copy.nodes.get(node.from.number);
                copy.nodes.add(new Node(from, node.number, node.fixed, node.in, node.bound, node.how));
            }
            copy.steps = steps;
            copy.best = new TreeSet<>(best);
            return copy;
        }
    }

    private State now = new State();
    private State kept;
    private final Deque<State> history = new ArrayDeque<>();
    private String text = "";

    // ---- things

    int add(int worth, int weight) {
        if (worth < 1 || worth > 99 || weight < 1 || weight > 50) return BAD_VALUE;
        if (goesOn()) return NOT_POSSIBLE;
        if (now.things.size() == 12) return FULL;
        record();
        forget();
        now.things.add(new Thing(worth, weight));
        return now.things.size() - 1;
    }

    int addAll() {
        int fault = faultOf(text);
        if (fault >= 0) return -100 - fault;
        if (goesOn()) return NOT_POSSIBLE;
        String[] parts = text.split(";");
        if (now.things.size() + parts.length > 12) return FULL;
        for (int place = 0; place < parts.length; place++) {
            String[] signs = parts[place].split("!");
            for (int sign = 1; sign < signs.length; sign++) {
                if (Integer.parseInt(signs[sign]) >= now.things.size() + place) return UNKNOWN;
            }
        }
        record();
        forget();
        for (String part : parts) {
            String[] signs = part.split("!");
            String[] numbers = signs[0].split("/");
            Thing made = new Thing(Integer.parseInt(numbers[0]), Integer.parseInt(numbers[1]));
            for (int sign = 1; sign < signs.length; sign++) {
                Thing other = now.things.get(Integer.parseInt(signs[sign]));
                other.barred.add(made);
                made.barred.add(other);
            }
            now.things.add(made);
        }
        return now.things.size();
    }

    /** The first prefix that no text of things begins with ends with the fault. */
    static int faultOf(String text) {
        for (int end = 1; end <= text.length(); end++) {
            Matcher matcher = THINGS.matcher(text.substring(0, end));
            if (!matcher.matches() && !matcher.hitEnd()) return end - 1;
        }
        return THINGS.matcher(text).matches() ? -1 : text.length();
    }

    int remove(int thing) {
        if (thing < 0 || thing >= now.things.size()) return UNKNOWN;
        if (goesOn()) return NOT_POSSIBLE;
        record();
        forget();
        Thing gone = now.things.remove(thing);
        for (Thing other : now.things) {
            other.barred.remove(gone);
        }
        return now.things.size();
    }

    int bar(int one, int other, boolean bar) {
        int many = now.things.size();
        if (one < 0 || one >= many || other < 0 || other >= many) return UNKNOWN;
        if (one == other) return BAD_VALUE;
        if (goesOn()) return NOT_POSSIBLE;
        if (bars(one, other) == bar) return NONE;
        record();
        forget();
        Thing first = now.things.get(one);
        Thing second = now.things.get(other);
        if (bar) {
            first.barred.add(second);
            second.barred.add(first);
        } else {
            first.barred.remove(second);
            second.barred.remove(first);
        }
        return pairs();
    }

    int setRoom(int room) {
        if (room < 0 || room > 200) return BAD_VALUE;
        if (goesOn()) return NOT_POSSIBLE;
        if (room == now.room) return NONE;
        record();
        forget();
        int was = now.room;
        now.room = room;
        return was;
    }

    // ---- search

    int set(int which, int value) {
        if (which != 0 && which != 1) return UNKNOWN;
        if (value < 0 || value > 2) return BAD_VALUE;
        int was = which == 0 ? now.order : now.choice;
        if (was == value) return NONE;
        record();
        if (which == 0) now.order = value;
        else now.choice = value;
        return was;
    }

    int begin() {
        if (goesOn()) return NOT_POSSIBLE;
        record();
        forget();
        now.nodes.add(new Node(null, 0, NONE, false, bound(Set.of(), Set.of()), 0));
        return now.nodes.get(0).bound;
    }

    int step(int steps) {
        if (steps < 1 || steps > 200) return BAD_VALUE;
        if (!goesOn()) return NOT_POSSIBLE;
        State was = now.copy();
        int done = 0;
        while (done < steps && goesOn()) {
            if (!oneStep(next())) {
                now = was;
                return FULL;
            }
            done++;
        }
        record(was);
        return done;
    }

    int dive() {
        if (!goesOn()) return NOT_POSSIBLE;
        State was = now.copy();
        int done = 0;
        while (goesOn()) {
            Node taken = now.nodes.get(openByOrder(0));
            if (!oneStep(taken.number)) {
                now = was;
                return FULL;
            }
            done++;
            if (taken.how == 1 || taken.how == 2) break;
        }
        record(was);
        return done;
    }

    private boolean oneStep(int number) {
        Node node = now.nodes.get(number);
        now.steps++;
        if (node.bound <= bestSoFar()) {
            node.how = 1;
            return true;
        }
        Set<Integer> in = node.fixedOnes(true);
        Set<Integer> out = node.fixedOnes(false);
        Set<Integer> heel = heel(in, out);
        if (worth(heel) > bestSoFar()) now.best = heel;
        if (node.bound <= worth(heel)) {
            node.how = 2;
            return true;
        }
        if (now.nodes.size() + 2 > 400) return false;
        int thing = branch(in, out, now.choice);
        for (boolean taken : new boolean[] {false, true}) {
            int bound = Math.max(0, bound(taken ? with(in, thing) : in, taken ? out : with(out, thing)));
            int how = bound > bestSoFar() ? 0 : 3;
            now.nodes.add(new Node(node, now.nodes.size(), thing, taken, bound, how));
        }
        node.how = 4;
        return true;
    }

    int giveUp() {
        int open = openOnes().size();
        if (open == 0) return NONE;
        record();
        for (Node node : openOnes()) node.how = 5;
        return open;
    }

    // ---- texts

    int type(char character) {
        if (text.length() == 80) return FULL;
        text += character;
        return text.length();
    }

    int clearText() {
        int was = text.length();
        text = "";
        return was;
    }

    // ---- history

    int undo() {
        if (history.isEmpty()) return NONE;
        now = history.removeLast();
        return history.size();
    }

    int keep() {
        kept = now.copy();
        return now.things.size();
    }

    int restore() {
        if (kept == null) return NONE;
        record();
        now = kept.copy();
        return now.things.size();
    }

    // ---- what is told

    int thing(int thing, int what) {
        if (thing < 0 || thing >= now.things.size()) return UNKNOWN;
        switch (what) {
            case 0: return now.things.get(thing).worth;
            case 1: return now.things.get(thing).weight;
            case 2: return inOrder(all()).indexOf(thing);
            case 3: {
                Set<Integer> barred = all();
                barred.removeIf(other -> !bars(thing, other));
                return bits(barred);
            }
            case 4: return now.best.contains(thing) ? 1 : 0;
            default: return BAD_VALUE;
        }
    }

    int node(int number, int what) {
        if (number < 0 || number >= now.nodes.size()) return UNKNOWN;
        Node node = now.nodes.get(number);
        switch (what) {
            case 0: return node.from == null ? NONE : node.from.number;
            case 1: return node.from == null ? NONE : node.fixed;
            case 2: return node.in ? 1 : 0;
            case 3: return node.bound;
            case 4: return node.how;
            case 5: return node.depth();
            case 6: return bits(node.fixedOnes(true));
            case 7: return bits(node.fixedOnes(false));
            default: return BAD_VALUE;
        }
    }

    int next() {
        return openOnes().isEmpty() ? NONE : openByOrder(now.order);
    }

    int branchOf(int number, int choice) {
        if (number < 0 || number >= now.nodes.size()) return UNKNOWN;
        Set<Integer> in = now.nodes.get(number).fixedOnes(true);
        Set<Integer> out = now.nodes.get(number).fixedOnes(false);
        if (bound(in, out) < 0) return UNKNOWN;
        if (choice < 0 || choice > 2) return BAD_VALUE;
        return free(in, out).isEmpty() ? NONE : branch(in, out, choice);
    }

    int boundOf(int in, int out) {
        if (!canFix(in, out)) return BAD_VALUE;
        return bound(set(in), set(out));
    }

    int heelOf(int in, int out) {
        if (!canFix(in, out)) return BAD_VALUE;
        return bound(set(in), set(out)) < 0 ? NOT_POSSIBLE : bits(heel(set(in), set(out)));
    }

    int bestSum() {
        int best = 0;
        for (int mask = 0; mask < 1 << now.things.size(); mask++) {
            if (isChoice(set(mask))) best = Math.max(best, worth(set(mask)));
        }
        return best;
    }

    int count(int what) {
        boolean begun = !now.nodes.isEmpty();
        switch (what) {
            case 0: return now.things.size();
            case 1: return now.room;
            case 2: return pairs();
            case 3: return now.order;
            case 4: return now.choice;
            case 5: return goesOn() ? 1 : 0;
            case 6: return now.nodes.size();
            case 7: return openOnes().size();
            case 8: return begun ? bestSoFar() : NONE;
            case 9: return begun ? bits(now.best) : NONE;
            case 10: {
                int greatest = openOnes().stream().mapToInt(node -> node.bound).max().orElse(0);
                return begun ? Math.max(0, greatest - bestSoFar()) : NONE;
            }
            case 11: return now.steps;
            case 12: case 13: case 14:
                return (int) now.nodes.stream().filter(node -> node.how == what - 11).count();
            case 15: return history.size();
            case 16: return text.length();
            default: return BAD_VALUE;
        }
    }

    // ---- what the terms say

    private boolean isChoice(Set<Integer> taken) {
        for (int one : taken) {
            for (int other : taken) {
                if (bars(one, other)) return false;
            }
        }
        return weight(taken) <= now.room;
    }

    private Set<Integer> free(Set<Integer> in, Set<Integer> out) {
        Set<Integer> free = all();
        free.removeAll(in);
        free.removeAll(out);
        free.removeIf(thing -> weight(with(in, thing)) > now.room);
        free.removeIf(thing -> in.stream().anyMatch(taken -> bars(thing, taken)));
        return free;
    }

    private int bound(Set<Integer> in, Set<Integer> out) {
        if (!isChoice(in)) return NOT_POSSIBLE;
        Set<Integer> taken = new TreeSet<>(in);
        for (int thing : inOrder(free(in, out))) {
            Thing told = now.things.get(thing);
            int left = now.room - weight(taken);
            if (told.weight > left) return worth(taken) + Math.floorDiv(told.worth * left, told.weight);
            taken.add(thing);
        }
        return worth(taken);
    }

    private Set<Integer> heel(Set<Integer> in, Set<Integer> out) {
        Set<Integer> heel = new TreeSet<>(in);
        for (int thing : inOrder(free(in, out))) {
            if (isChoice(with(heel, thing))) heel = with(heel, thing);
        }
        return heel;
    }

    private int branch(Set<Integer> in, Set<Integer> out, int choice) {
        List<Integer> free = inOrder(free(in, out));
        Comparator<Integer> by;
        if (choice == 0) {
            int weight = weight(in);
            for (int thing : free) {
                weight += now.things.get(thing).weight;
                if (weight > now.room) return thing;
            }
            Set<Integer> heel = heel(in, out);
            return free.stream().filter(thing -> !heel.contains(thing)).findFirst().orElse(free.get(0));
        }
        if (choice == 1) {
            by = Comparator.comparing(thing -> -now.things.get(thing).weight);
        } else {
            by = Comparator.<Integer, Integer>comparing(thing -> trial(in, out, thing).get(1))
                    .thenComparing(thing -> trial(in, out, thing).get(0));
        }
        return free.stream().min(by.thenComparing(thing -> thing)).get();
    }

    private List<Integer> trial(Set<Integer> in, Set<Integer> out, int thing) {
        List<Integer> bounds = new ArrayList<>();
        bounds.add(Math.max(0, bound(with(in, thing), out)));
        bounds.add(Math.max(0, bound(in, with(out, thing))));
        bounds.sort(null);
        return bounds;
    }

    private List<Integer> inOrder(Set<Integer> things) {
        List<Integer> sorted = new ArrayList<>(new TreeSet<>(things));
        sorted.sort((one, other) -> {
            Thing first = now.things.get(one);
            Thing second = now.things.get(other);
            return Integer.compare(second.worth * first.weight, first.worth * second.weight);
        });
        return sorted;
    }

    private int openByOrder(int order) {
        List<Node> open = openOnes();
        if (order == 0) return open.get(open.size() - 1).number;
        if (order == 2) return open.get(0).number;
        return open.stream().min(Comparator.comparing(node -> -node.bound)).get().number;
    }

    private List<Node> openOnes() {
        return now.nodes.stream().filter(node -> node.how == 0).toList();
    }

    private boolean goesOn() {
        return !openOnes().isEmpty();
    }

    private void record() {
        record(now.copy());
    }

    private void record(State was) {
        history.addLast(was);
        if (history.size() > 4) history.removeFirst();
    }

    private void forget() {
        now.nodes.clear();
        now.steps = 0;
        now.best = new TreeSet<>();
    }

    private int bestSoFar() {
        return worth(now.best);
    }

    private boolean bars(int one, int other) {
        return now.things.get(one).barred.contains(now.things.get(other));
    }

    private int pairs() {
        return now.things.stream().mapToInt(thing -> thing.barred.size()).sum() / 2;
    }

    private int worth(Set<Integer> set) {
        return set.stream().mapToInt(thing -> now.things.get(thing).worth).sum();
    }

    private int weight(Set<Integer> set) {
        return set.stream().mapToInt(thing -> now.things.get(thing).weight).sum();
    }

    private boolean canFix(int in, int out) {
        for (int bit = 0; bit < 32; bit++) {
            boolean first = (in >>> bit & 1) == 1;
            boolean second = (out >>> bit & 1) == 1;
            if ((first || second) && bit >= now.things.size() || first && second) return false;
        }
        return true;
    }

    private Set<Integer> all() {
        return set((1 << now.things.size()) - 1);
    }

    private static Set<Integer> with(Set<Integer> set, int thing) {
        Set<Integer> more = new TreeSet<>(set);
        more.add(thing);
        return more;
    }

    private static Set<Integer> set(int bits) {
        Set<Integer> set = new TreeSet<>();
        for (int bit = 0; bit < 31; bit++) {
            if ((bits >> bit & 1) == 1) set.add(bit);
        }
        return set;
    }

    private static int bits(Set<Integer> set) {
        return set.stream().mapToInt(thing -> 1 << thing).sum();
    }
}
