/**
 * Runs of calls that are drawn from a fixed row of numbers, each on a new object and on the
 * oracle; both have to answer the same. A run stays under the 512 calls that are promised.
 */
public final class RandomRunsTest {
    private static final int RUNS = 800;
    private static final int CALLS = 512;
    private static final int[] EDGES = {-1, 0, 1, 2, 11, 12, 49, 50, 51, 98, 99, 100, 199, 200, 201,
        399, 400, Integer.MAX_VALUE, Integer.MIN_VALUE, -2, -5, 32, 33, 64};

    private final Due due;
    private final int run;
    private final BranchedSums sums = new BranchedSums();
    private final Oracle oracle = new Oracle();
    private long seed;
    private int calls;
    private int timesFull;

    private RandomRunsTest(Due due, int run) {
        this.due = due;
        this.run = run;
        this.seed = run * 7919L + 17;
    }

    public static void main(String[] args) {
        Due due = new Due();
        int full = 0;
        for (int run = 0; run < RUNS && !due.failed(); run++) {
            RandomRunsTest test = new RandomRunsTest(due, run);
            test.go();
            full += test.timesFull;
        }
        due.is("a run in which the nodes run out is among them", full > 20 ? 1 : 0, 1);
        due.end();
    }

    private void go() {
        int kind = run % 5;
        if (kind == 1) {
            fillAlike();
        } else if (kind == 2) {
            fillMixed();
        } else if (kind == 3) {
            fillBarred();
        }
        while (calls < CALLS - 60) {
            act(kind == 4);
            tell();
            tell();
        }
        tellAll();
    }

    /** Even weights and an odd room leave a gap that no bound closes: nodes run out. */
    private void fillAlike() {
        int many = 8 + draw(5);
        int worth = 1 + draw(40);
        int weight = 2 * (1 + draw(3));
        for (int thing = 0; thing < many; thing++) {
            add(worth + draw(2) * draw(2), weight);
        }
        setRoom(weight * (many / 2) + 1 + draw(weight - 1));
        set(0, draw(3));
        set(1, draw(3));
        begin();
    }

    private void fillMixed() {
        int many = 6 + draw(7);
        for (int thing = 0; thing < many; thing++) {
            int weight = 1 + draw(50);
            add(Math.min(99, weight + draw(6) + draw(2) * draw(40)), weight);
        }
        setRoom(20 + draw(181));
        for (int pair = draw(9); pair > 0; pair--) {
            bar(draw(many), draw(many), true);
        }
        set(0, draw(3));
        set(1, draw(3));
        begin();
    }

    private void fillBarred() {
        for (int thing = 0; thing < 12; thing++) {
            add(90 + draw(10), 1 + draw(16));
        }
        setRoom(200);
        for (int pair = 10 + draw(16); pair > 0; pair--) {
            bar(draw(12), draw(12), true);
        }
        set(0, draw(3));
        set(1, draw(3));
        begin();
    }

    private void act(boolean mostlyTexts) {
        switch (mostlyTexts && draw(3) > 0 ? 12 : draw(30)) {
            case 0: add(wild(1 + draw(99)), wild(1 + draw(50))); break;
            case 1: add(1 + draw(20), 1 + draw(20)); break;
            case 2: add(2 + 2 * draw(4), 2 + 2 * draw(3)); break;
            case 3: remove(wild(draw(12))); break;
            case 4: case 5: bar(wild(draw(12)), wild(draw(12)), draw(4) > 0); break;
            case 6: setRoom(wild(draw(201))); break;
            case 7: set(wild(draw(2)), wild(draw(3))); break;
            case 8: set(draw(2), draw(3)); break;
            case 9: case 10: case 11: begin(); break;
            case 12: typeThings(); break;
            case 13: due("addAll()", sums.addAll(), oracle.addAll()); break;
            case 14: case 15: case 16: step(1 + draw(3)); break;
            case 17: step(wild(1 + draw(20))); break;
            case 18: step(200); break;
            case 19: case 20: due("dive()", sums.dive(), oracle.dive()); break;
            case 21: if (draw(2) == 0) due("giveUp()", sums.giveUp(), oracle.giveUp()); break;
            case 22: case 23: case 24: due("undo()", sums.undo(), oracle.undo()); break;
            case 25: due("keep()", sums.keep(), oracle.keep()); break;
            case 26: due("restore()", sums.restore(), oracle.restore()); break;
            case 27: due("bestSum()", sums.bestSum(), oracle.bestSum()); break;
            case 28: if (draw(3) == 0) due("clearText()", sums.clearText(), oracle.clearText()); break;
            default: add(1 + draw(99), 1 + draw(50)); break;
        }
    }

    private void typeThings() {
        if (draw(5) > 0) due("clearText()", sums.clearText(), oracle.clearText());
        StringBuilder text = new StringBuilder();
        for (int thing = draw(3 + draw(4)); thing >= 0; thing--) {
            text.append(1 + draw(99)).append('/').append(1 + draw(50));
            for (int bar = draw(3); bar > 0 && draw(2) == 0; bar--) {
                text.append('!').append(draw(1 + draw(11)));
            }
            if (thing > 0) text.append(';');
        }
        if (draw(2) == 0) {
            String signs = "0123456789/;!:. -\u00e9\u2460";
            int place = draw(text.length());
            if (draw(3) == 0) text.setLength(place + 1);
            else if (draw(2) == 0) text.setCharAt(place, signs.charAt(draw(signs.length())));
            else text.insert(place, signs.charAt(draw(signs.length())));
        }
        for (int place = 0; place < text.length() && calls < CALLS - 60; place++) {
            char sign = text.charAt(place);
            due("type((char) " + (int) sign + ")", sums.type(sign), oracle.type(sign));
        }
        due("addAll()", sums.addAll(), oracle.addAll());
    }

    private void tell() {
        int bits = draw(1 << 12) & draw(1 << 12);
        int others = draw(1 << 12) & ~bits & draw(1 << 12);
        int things = (1 << Math.max(0, oracle.count(0))) - 1;
        switch (draw(9)) {
            case 0: tellThing(wild(draw(12)), wild(draw(5))); break;
            case 1: case 2: tellNode(wild(draw(1 + oracle.count(6))), wild(draw(8))); break;
            case 3: due("next()", sums.next(), oracle.next()); break;
            case 4: tellBranch(wild(draw(1 + oracle.count(6))), wild(draw(3))); break;
            case 5: tellFixed(bits & things & draw(1 << 12), others & things); break;
            case 6: tellFixed(wild(bits & draw(1 << 12)), wild(draw(3) == 0 ? draw(1 << 12) : others)); break;
            default: tellCount(wild(draw(17))); break;
        }
    }

    /** The whole of the state that counts tell, and some nodes. */
    private void tellAll() {
        for (int what = -1; what <= 17; what++) {
            tellCount(what);
        }
        for (int node = 0; node < 4; node++) {
            int number = draw(1 + oracle.count(6));
            for (int what = 0; what < 8; what++) {
                tellNode(number, what);
            }
        }
        due("next()", sums.next(), oracle.next());
        due("bestSum()", sums.bestSum(), oracle.bestSum());
    }

    private void add(int worth, int weight) {
        due("add(" + worth + ", " + weight + ")", sums.add(worth, weight), oracle.add(worth, weight));
    }

    private void remove(int thing) {
        due("remove(" + thing + ")", sums.remove(thing), oracle.remove(thing));
    }

    private void bar(int one, int other, boolean bar) {
        due("bar(" + one + ", " + other + ", " + bar + ")", sums.bar(one, other, bar), oracle.bar(one, other, bar));
    }

    private void setRoom(int room) {
        due("setRoom(" + room + ")", sums.setRoom(room), oracle.setRoom(room));
    }

    private void set(int which, int value) {
        due("set(" + which + ", " + value + ")", sums.set(which, value), oracle.set(which, value));
    }

    private void begin() {
        due("begin()", sums.begin(), oracle.begin());
    }

    private void step(int steps) {
        int want = oracle.step(steps);
        if (want == Oracle.FULL) timesFull++;
        due("step(" + steps + ")", sums.step(steps), want);
    }

    private void tellThing(int thing, int what) {
        due("thing(" + thing + ", " + what + ")", sums.thing(thing, what), oracle.thing(thing, what));
    }

    private void tellNode(int node, int what) {
        due("node(" + node + ", " + what + ")", sums.node(node, what), oracle.node(node, what));
    }

    private void tellBranch(int node, int choice) {
        due("branchOf(" + node + ", " + choice + ")", sums.branchOf(node, choice), oracle.branchOf(node, choice));
    }

    private void tellFixed(int in, int out) {
        due("boundOf(" + in + ", " + out + ")", sums.boundOf(in, out), oracle.boundOf(in, out));
        due("heelOf(" + in + ", " + out + ")", sums.heelOf(in, out), oracle.heelOf(in, out));
    }

    private void tellCount(int what) {
        due("count(" + what + ")", sums.count(what), oracle.count(what));
    }

    private void due(String call, int got, int want) {
        calls++;
        due.is("run " + run + ", call " + calls + ": " + call, got, want);
    }

    /** Now and then an edge, or what is far out of range, in place of a number. */
    private int wild(int number) {
        return draw(12) == 0 ? EDGES[draw(EDGES.length)] : number;
    }

    private int draw(int below) {
        seed = seed * 6364136223846793005L + 1442695040888963407L;
        return (int) ((seed >>> 33) % Math.max(1, below));
    }
}
