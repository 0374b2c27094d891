/** Each promise by itself: what is ordinary, the edges that the document names, wrong inputs. */
public final class PromisesTest {
    private static final int UNKNOWN = BranchedSums.UNKNOWN;
    private static final int BAD_VALUE = BranchedSums.BAD_VALUE;
    private static final int FULL = BranchedSums.FULL;
    private static final int NOT_POSSIBLE = BranchedSums.NOT_POSSIBLE;
    private static final int NONE = BranchedSums.NONE;
    private static final int[] FAR = {-1, Integer.MIN_VALUE, Integer.MAX_VALUE, 400, 1000};

    private static final Due DUE = new Due();

    private static void due(String call, long got, long want) {
        DUE.is(call, got, want);
    }

    /** An object with things that are told as worth, weight, worth, weight and so on. */
    private static BranchedSums with(int room, int... things) {
        BranchedSums x = new BranchedSums();
        for (int place = 0; place + 1 < things.length; place += 2) {
            x.add(things[place], things[place + 1]);
        }
        x.setRoom(room);
        return x;
    }

    /** Ratios 6, 4.95, 5, 4.16.. and 3.5: the order of the bound is 0, 2, 1, 3, 4. */
    private static BranchedSums five() {
        return with(30, 60, 10, 99, 20, 90, 18, 50, 12, 7, 2);
    }

    /** Twelve even weights and an odd room: the bound is 11 wherever the heel is 10. */
    private static BranchedSums endless() {
        BranchedSums x = with(11);
        for (int thing = 0; thing < 12; thing++) {
            x.add(2, 2);
        }
        return x;
    }

    private static void typed(BranchedSums x, String text) {
        x.clearText();
        for (int place = 0; place < text.length(); place++) {
            x.type(text.charAt(place));
        }
    }

    private static void counts(String state, BranchedSums x, int first, int... wanted) {
        for (int place = 0; place < wanted.length; place++) {
            due(state + ": count(" + (first + place) + ")", x.count(first + place), wanted[place]);
        }
    }

    private static void nodeTells(String state, BranchedSums x, int node, int... wanted) {
        for (int what = 0; what < wanted.length; what++) {
            due(state + ": node(" + node + ", " + what + ")", x.node(node, what), wanted[what]);
        }
    }

    public static void main(String[] args) {
        constants();
        newObject();
        add();
        addAll();
        addAllRefuses();
        faults();
        remove();
        bar();
        setRoom();
        set();
        begin();
        step();
        stepRunsOutOfNodes();
        stepByOrder();
        dive();
        diveRunsOutOfNodes();
        giveUp();
        type();
        clearText();
        undo();
        undoOfEachAct();
        keepAndRestore();
        thing();
        node();
        next();
        branchOf();
        branchOfTrials();
        boundOf();
        heelOf();
        bestSum();
        count();
        DUE.end();
    }

    private static void constants() {
        due("UNKNOWN", UNKNOWN, -1);
        due("BAD_VALUE", BAD_VALUE, -2);
        due("FULL", FULL, -3);
        due("NOT_POSSIBLE", NOT_POSSIBLE, -4);
        due("NONE", NONE, -5);
    }

    private static void newObject() {
        BranchedSums x = new BranchedSums();
        counts("1 new", x, 0, 0, 30, 0, 0, 0, 0, 0, 0, NONE, NONE, NONE, 0, 0, 0, 0, 0, 0);
        due("1 next()", x.next(), NONE);
        due("1 undo()", x.undo(), NONE);
        due("1 restore()", x.restore(), NONE);
        due("1 giveUp()", x.giveUp(), NONE);
        due("1 bestSum()", x.bestSum(), 0);
        due("1 boundOf(0, 0)", x.boundOf(0, 0), 0);
        due("1 heelOf(0, 0)", x.heelOf(0, 0), 0);
        due("1 thing(0, 0)", x.thing(0, 0), UNKNOWN);
        due("1 node(0, 0)", x.node(0, 0), UNKNOWN);
        BranchedSums other = new BranchedSums();
        x.add(1, 1);
        x.type('1');
        due("1 another object's things", other.count(0), 0);
        due("1 another object's text", other.count(16), 0);
        due("1 another object's history", other.count(15), 0);
    }

    private static void add() {
        BranchedSums x = new BranchedSums();
        for (int wrong : new int[] {0, -1, 100, Integer.MIN_VALUE, Integer.MAX_VALUE}) {
            due("2 add(" + wrong + ", 1)", x.add(wrong, 1), BAD_VALUE);
        }
        for (int wrong : new int[] {0, -1, 51, Integer.MIN_VALUE, Integer.MAX_VALUE}) {
            due("2 add(1, " + wrong + ")", x.add(1, wrong), BAD_VALUE);
        }
        due("2 nothing recorded by errors", x.count(15), 0);
        due("2 add(1, 1)", x.add(1, 1), 0);
        due("2 add(99, 50)", x.add(99, 50), 1);
        due("2 recorded", x.count(15), 2);
        due("2 thing(1, 0)", x.thing(1, 0), 99);
        due("2 thing(1, 1)", x.thing(1, 1), 50);
        due("2 thing(1, 3)", x.thing(1, 3), 0);
        x.begin();
        due("2 add(1, 1) while a search goes on", x.add(1, 1), NOT_POSSIBLE);
        due("2 add(0, 1) while a search goes on", x.add(0, 1), BAD_VALUE);
        x.giveUp();
        due("2 add(5, 5) when it is over", x.add(5, 5), 2);
        counts("2 forgotten", x, 5, 0, 0, 0, NONE, NONE, NONE, 0, 0, 0, 0);
        for (int number = 3; number < 12; number++) {
            due("2 add(7, 7)", x.add(7, 7), number);
        }
        due("2 a thirteenth", x.add(7, 7), FULL);
        due("2 a wrong thirteenth", x.add(7, 51), BAD_VALUE);
        x.begin();
        due("2 a thirteenth while a search goes on", x.add(7, 7), NOT_POSSIBLE);
    }

    private static void addAll() {
        BranchedSums x = with(30, 9, 9);
        typed(x, "99/50!0;1/1!0!1;10/10!0!2!0");
        due("3 addAll()", x.addAll(), 4);
        due("3 the text stays", x.count(16), 27);
        due("3 one act", x.undo(), 1);
        due("3 taken back", x.count(0), 1);
        due("3 addAll() again", x.addAll(), 4);
        int[][] wanted = {{9, 9, 1, 14}, {99, 50, 0, 5}, {1, 1, 2, 11}, {10, 10, 3, 5}};
        for (int thing = 0; thing < 4; thing++) {
            for (int what = 0; what < 4; what++) {
                due("3 thing(" + thing + ", " + what + ")", x.thing(thing, what), wanted[thing][what]);
            }
        }
        due("3 pairs", x.count(2), 5);
        x.begin();
        x.giveUp();
        due("3 addAll() beyond a search that is over", x.addAll(), 7);
        counts("3 forgotten", x, 6, 0, 0, NONE, NONE, NONE, 0);
        due("3 bars by the numbers of all things", x.thing(4, 3), 1);
        due("3 bars by the numbers of all things", x.thing(0, 3), 14 + 16 + 32 + 64);
        typed(x, "1/1;1/1;1/1;1/1;5/50!10");
        due("3 up to twelve", x.addAll(), 12);
        due("3 the eleventh is barred", x.thing(11, 3), 1 << 10);
    }

    private static void addAllRefuses() {
        BranchedSums x = with(31);
        int recorded = x.count(15);
        typed(x, "5/5!0");
        due("3 a bar to itself", x.addAll(), UNKNOWN);
        typed(x, "5/5;5/5!1");
        due("3 a bar to itself", x.addAll(), UNKNOWN);
        typed(x, "5/5!1;5/5");
        due("3 a bar to one behind", x.addAll(), UNKNOWN);
        typed(x, "5/5;5/5!0;5/5!0!7");
        due("3 a bar to none", x.addAll(), UNKNOWN);
        counts("3 all or none", x, 0, 0, 31, 0);
        due("3 nothing recorded", x.count(15), recorded);
        typed(x, "1/1;1/1;1/1;1/1;1/1;1/1;1/1;1/1;1/1;1/1;1/1;1/1;1/1");
        due("3 thirteen", x.addAll(), FULL);
        typed(x, "1/1!9;1/1;1/1;1/1;1/1;1/1;1/1;1/1;1/1;1/1;1/1;1/1;1/1");
        due("3 thirteen with a wrong bar", x.addAll(), FULL);
        typed(x, "1/1;1/1;1/1;1/1;1/1;1/1;1/1;1/1;1/1;1/1;1/1;1/1;1/1;1/1;1/1;1/1;1/1;1/1;1/1;1/1");
        due("3 twenty that end too early by nothing", x.addAll(), FULL);
        x.add(1, 1);
        typed(x, "1/1;1/1;1/1;1/1;1/1;1/1;1/1;1/1;1/1;1/1;1/1;1/1");
        due("3 one more than twelve", x.addAll(), FULL);
        x.begin();
        due("3 one more while a search goes on", x.addAll(), NOT_POSSIBLE);
        typed(x, "1/1!5");
        due("3 a wrong bar while a search goes on", x.addAll(), NOT_POSSIBLE);
        typed(x, "1/1!");
        due("3 a fault while a search goes on", x.addAll(), -104);
    }

    private static void faults() {
        Object[][] texts = {{"", 0}, {"0/1", 0}, {"/1", 0}, {"a", 0}, {" 1/1", 0}, {";1/1", 0}, {"!", 0},
            {"1", 1}, {"99", 2}, {"100/1", 2}, {"1 /1", 1}, {"1;1", 1}, {"1!1", 1}, {"-1/1", 0}, {"01/1", 0},
            {"5/", 2}, {"5/0", 2}, {"5/05", 2}, {"5//5", 2}, {"5/51", 3}, {"5/60", 3}, {"5/500", 4}, {"5/5/", 3},
            {"5/5!", 4}, {"5/5!a", 4}, {"5/5!!", 4}, {"5/5!;", 4}, {"5/5!00", 5}, {"5/5!01", 5}, {"5/5!11", 5},
            {"5/5!20", 5}, {"5/5!100", 6}, {"5/5!0/", 5}, {"5/5;", 4}, {"5/5;;", 4}, {"5/5;0/5", 4},
            {"5/5;5", 5}, {"5/5;5/", 6}, {"5/5;5/5x", 7}, {"5/5;5/5\u00b2", 7}, {"\u0661/1", 0}, {"5/\uffff", 2},
            {"5/5!10;5/0", 9}, {"5/5 ", 3}, {"5:5", 1}, {"9:/5", 1}, {"5/5\u0000", 3}};
        for (Object[] pair : texts) {
            BranchedSums x = new BranchedSums();
            typed(x, (String) pair[0]);
            due("3 addAll() of '" + pair[0] + "'", x.addAll(), -100 - (Integer) pair[1]);
            due("3 no thing by '" + pair[0] + "'", x.count(0) + x.count(15), 0);
        }
        BranchedSums x = new BranchedSums();
        typed(x, "1/1;".repeat(20));
        due("3 eighty characters that end too early", x.addAll(), -180);
        for (String good : new String[] {"1/1", "9/9", "10/10", "99/50", "90/49", "19/20"}) {
            typed(x, good);
            int things = x.count(0) + 1;
            due("3 addAll() of '" + good + "'", x.addAll(), things);
        }
    }

    private static void remove() {
        BranchedSums x = with(30, 10, 1, 20, 2, 30, 3, 40, 4);
        x.bar(0, 1, true);
        x.bar(0, 3, true);
        x.bar(2, 3, true);
        x.bar(1, 3, true);
        for (int far : FAR) {
            due("4 remove(" + far + ")", x.remove(far), UNKNOWN);
        }
        due("4 remove(4)", x.remove(4), UNKNOWN);
        x.begin();
        due("4 remove(9) while a search goes on", x.remove(9), UNKNOWN);
        due("4 remove(1) while a search goes on", x.remove(1), NOT_POSSIBLE);
        x.step(200);
        due("4 remove(1)", x.remove(1), 3);
        due("4 the search is forgotten", x.count(8), NONE);
        due("4 pairs", x.count(2), 2);
        int[][] wanted = {{10, 1, 0, 4}, {30, 3, 1, 4}, {40, 4, 2, 3}};
        for (int thing = 0; thing < 3; thing++) {
            for (int what = 0; what < 4; what++) {
                due("4 thing(" + thing + ", " + what + ")", x.thing(thing, what), wanted[thing][what]);
            }
        }
        due("4 thing(3, 0)", x.thing(3, 0), UNKNOWN);
        due("4 remove(2)", x.remove(2), 2);
        due("4 pairs", x.count(2), 0);
        due("4 remove(0)", x.remove(0), 1);
        due("4 remove(0)", x.remove(0), 0);
        due("4 remove(0)", x.remove(0), UNKNOWN);
        due("4 undo()", x.undo(), 3);
        due("4 back", x.thing(0, 0), 30);
        due("4 a new one has no bars", x.add(1, 1), 1);
        due("4 a new one has no bars", x.thing(1, 3), 0);
    }

    private static void bar() {
        BranchedSums x = with(30, 10, 1, 20, 2, 30, 3);
        int recorded = x.count(15);
        for (int far : FAR) {
            due("5 bar(" + far + ", 0)", x.bar(far, 0, true), UNKNOWN);
            due("5 bar(0, " + far + ")", x.bar(0, far, true), UNKNOWN);
            due("5 bar(" + far + ", " + far + ")", x.bar(far, far, true), UNKNOWN);
        }
        due("5 bar(0, 3)", x.bar(0, 3, true), UNKNOWN);
        due("5 bar(1, 1, true)", x.bar(1, 1, true), BAD_VALUE);
        due("5 bar(1, 1, false)", x.bar(1, 1, false), BAD_VALUE);
        due("5 bar(0, 1, false)", x.bar(0, 1, false), NONE);
        due("5 nothing recorded", x.count(15), recorded);
        due("5 bar(2, 0, true)", x.bar(2, 0, true), 1);
        due("5 bar(0, 2, true)", x.bar(0, 2, true), NONE);
        due("5 bar(0, 1, true)", x.bar(0, 1, true), 2);
        due("5 thing(0, 3)", x.thing(0, 3), 6);
        due("5 thing(1, 3)", x.thing(1, 3), 1);
        due("5 bar(0, 2, false)", x.bar(0, 2, false), 1);
        due("5 thing(2, 3)", x.thing(2, 3), 0);
        due("5 undo()", x.undo(), 3);
        due("5 thing(2, 3)", x.thing(2, 3), 1);
        x.begin();
        due("5 same ones while a search goes on", x.bar(1, 1, true), BAD_VALUE);
        due("5 bar while a search goes on", x.bar(0, 1, false), NOT_POSSIBLE);
        due("5 none while a search goes on", x.bar(0, 1, true), NOT_POSSIBLE);
        x.giveUp();
        due("5 none when it is over", x.bar(0, 1, true), NONE);
        due("5 the search is there still", x.count(8), 0);
        due("5 bar when it is over", x.bar(0, 1, false), 1);
        due("5 the search is forgotten", x.count(8), NONE);
    }

    private static void setRoom() {
        BranchedSums x = new BranchedSums();
        for (int wrong : new int[] {-1, 201, Integer.MIN_VALUE, Integer.MAX_VALUE}) {
            due("6 setRoom(" + wrong + ")", x.setRoom(wrong), BAD_VALUE);
        }
        due("6 setRoom(30)", x.setRoom(30), NONE);
        due("6 nothing recorded", x.count(15), 0);
        due("6 setRoom(200)", x.setRoom(200), 30);
        due("6 setRoom(0)", x.setRoom(0), 200);
        due("6 the room", x.count(1), 0);
        due("6 undo()", x.undo(), 1);
        due("6 the room", x.count(1), 200);
        x.begin();
        due("6 setRoom(201) while a search goes on", x.setRoom(201), BAD_VALUE);
        due("6 setRoom(200) while a search goes on", x.setRoom(200), NOT_POSSIBLE);
        due("6 setRoom(5) while a search goes on", x.setRoom(5), NOT_POSSIBLE);
        x.step(1);
        due("6 setRoom(200) when it is over", x.setRoom(200), NONE);
        due("6 the search is there still", x.count(6), 1);
        due("6 setRoom(5) when it is over", x.setRoom(5), 200);
        due("6 the search is forgotten", x.count(6), 0);
    }

    private static void set() {
        BranchedSums x = new BranchedSums();
        for (int far : new int[] {-1, 2, Integer.MIN_VALUE, Integer.MAX_VALUE}) {
            due("7 set(" + far + ", 0)", x.set(far, 0), UNKNOWN);
            due("7 set(" + far + ", 3)", x.set(far, 3), UNKNOWN);
        }
        for (int wrong : new int[] {-1, 3, Integer.MIN_VALUE, Integer.MAX_VALUE}) {
            due("7 set(0, " + wrong + ")", x.set(0, wrong), BAD_VALUE);
            due("7 set(1, " + wrong + ")", x.set(1, wrong), BAD_VALUE);
        }
        due("7 set(0, 0)", x.set(0, 0), NONE);
        due("7 set(1, 0)", x.set(1, 0), NONE);
        due("7 nothing recorded", x.count(15), 0);
        due("7 set(0, 2)", x.set(0, 2), 0);
        due("7 set(1, 1)", x.set(1, 1), 0);
        due("7 set(0, 1)", x.set(0, 1), 2);
        due("7 set(1, 2)", x.set(1, 2), 1);
        due("7 the order", x.count(3), 1);
        due("7 the choice", x.count(4), 2);
        due("7 set(1, 2)", x.set(1, 2), NONE);
        x.begin();
        due("7 set(0, 0) while a search goes on", x.set(0, 0), 1);
        due("7 it goes on", x.count(5), 1);
        x.step(1);
        due("7 set(1, 0) when it is over", x.set(1, 0), 2);
        due("7 the search is there still", x.count(6), 1);
        due("7 undo()", x.undo(), 3);
        due("7 the choice", x.count(4), 2);
    }

    private static void begin() {
        BranchedSums x = five();
        due("8 begin()", x.begin(), 159);
        due("8 begin() again", x.begin(), NOT_POSSIBLE);
        counts("8 begun", x, 5, 1, 1, 1, 0, 0, 159, 0, 0, 0, 0);
        nodeTells("8 the root", x, 0, NONE, NONE, 0, 159, 0, 0, 0, 0);
        due("8 undo()", x.undo(), 3);
        due("8 no search", x.count(6), 0);
        x.begin();
        x.step(200);
        due("8 begin() when one is over", x.begin(), 159);
        counts("8 begun anew", x, 5, 1, 1, 1, 0, 0, 159, 0, 0, 0, 0);
        due("8 undo()", x.undo(), 3);
        counts("8 the one that was", x, 5, 0, 3, 0, 159, 3, 0, 3, 1, 1, 0);
        BranchedSums empty = new BranchedSums();
        due("8 begin() without things", empty.begin(), 0);
        due("8 it goes on", empty.count(5), 1);
    }

    private static void step() {
        BranchedSums x = five();
        due("9 step(1) without a search", x.step(1), NOT_POSSIBLE);
        due("9 step(0) without a search", x.step(0), BAD_VALUE);
        x.begin();
        for (int wrong : new int[] {0, -1, 201, Integer.MIN_VALUE, Integer.MAX_VALUE}) {
            due("9 step(" + wrong + ")", x.step(wrong), BAD_VALUE);
        }
        due("9 step(1)", x.step(1), 1);
        counts("9 after one", x, 5, 1, 3, 2, 157, 21, 2, 1, 0, 0, 0);
        nodeTells("9 the root", x, 0, NONE, NONE, 0, 159, 4, 0, 0, 0);
        nodeTells("9 the child without", x, 1, 0, 1, 0, 158, 0, 1, 0, 2);
        nodeTells("9 the child with", x, 2, 0, 1, 1, 159, 0, 1, 2, 0);
        due("9 step(200)", x.step(200), 2);
        counts("9 over", x, 5, 0, 3, 0, 159, 3, 0, 3, 1, 1, 0);
        due("9 closed", x.node(2, 4), 2);
        due("9 cut off as it was taken", x.node(1, 4), 1);
        due("9 step(1) when it is over", x.step(1), NOT_POSSIBLE);
        due("9 one act", x.undo(), 3);
        counts("9 taken back", x, 5, 1, 3, 2, 157, 21, 2, 1, 0, 0, 0);
        cutAtOnce();
    }

    /** Of two alike in a room for one and a half, the child without the first is worth no more. */
    private static void cutAtOnce() {
        BranchedSums x = with(15, 10, 10, 10, 10);
        due("9 begin()", x.begin(), 15);
        due("9 step(1)", x.step(1), 1);
        counts("9 children cut off at once", x, 5, 0, 3, 0, 10, 1, 0, 1, 0, 0, 2);
        nodeTells("9 without", x, 1, 0, 1, 0, 10, 3, 1, 0, 2);
        nodeTells("9 with", x, 2, 0, 1, 1, 10, 3, 1, 2, 0);
        BranchedSums nothing = with(5, 9, 50);
        nothing.begin();
        due("9 a bound of 0", nothing.step(3), 1);
        due("9 is cut off", nothing.node(0, 4), 1);
    }

    private static void stepRunsOutOfNodes() {
        BranchedSums x = endless();
        x.set(0, 2);
        x.set(1, 1);
        due("9 begin()", x.begin(), 11);
        int recorded = x.count(15);
        due("9 step(200) is too much", x.step(200), FULL);
        counts("9 nothing changed", x, 5, 1, 1, 1, 0, 0, 11, 0, 0, 0, 0);
        due("9 nothing recorded", x.count(15), recorded);
        nodeTells("9 nothing changed", x, 0, NONE, NONE, 0, 11, 0, 0, 0, 0);
        int steps = 0;
        int done = x.step(1);
        while (done == 1 && steps < 400) {
            steps++;
            done = x.step(1);
        }
        due("9 step(1) at the end", done, FULL);
        due("9 the nodes at the end", x.count(6), 399);
        due("9 the steps at the end", x.count(11), steps);
        due("9 the last node", x.node(398, 2), 1);
        due("9 none behind it", x.node(399, 4), UNKNOWN);
        due("9 step(200) at the end", x.step(200), FULL);
        due("9 undo() at the end", x.undo(), 3);
        due("9 what the last step made is gone", x.count(11), steps - 1);
        due("9 giveUp() at the end", x.giveUp() > 0 ? 1 : 0, 1);
    }

    /** The root's children have the bounds 158 (older) and 159. */
    private static void stepByOrder() {
        int[][] wanted = {{0, 2}, {1, 2}, {2, 1}};
        for (int[] pair : wanted) {
            BranchedSums x = five();
            x.set(0, pair[0]);
            x.begin();
            x.step(1);
            due("9 next() by the order " + pair[0], x.next(), pair[1]);
            x.step(1);
            due("9 taken by the order " + pair[0], x.node(pair[1], 4) == 0 ? 0 : 1, 1);
            due("9 not taken by the order " + pair[0], x.node(3 - pair[1], 4), 0);
        }
        BranchedSums alike = endless();
        alike.set(0, 1);
        alike.begin();
        alike.step(1);
        due("9 the older of two that are alike", alike.next(), 1);
        alike.set(0, 0);
        due("9 the newer by another order", alike.next(), 2);
    }

    private static void dive() {
        BranchedSums x = five();
        due("10 dive() without a search", x.dive(), NOT_POSSIBLE);
        x.set(0, 2);
        x.begin();
        due("10 dive()", x.dive(), 2);
        counts("10 dived", x, 5, 1, 3, 1, 159, 3, 0, 2, 0, 1, 0);
        due("10 the order stays", x.count(3), 2);
        due("10 the older child is open", x.node(1, 4), 0);
        due("10 dive() ends with one that is cut off", x.dive(), 1);
        due("10 cut off", x.node(1, 4), 1);
        due("10 dive() when it is over", x.dive(), NOT_POSSIBLE);
        due("10 one act", x.undo(), 3);
        due("10 one act", x.undo(), 2);
        due("10 taken back", x.count(6), 1);
        BranchedSums two = with(15, 10, 10, 10, 10);
        two.begin();
        due("10 dive() until none is open", two.dive(), 1);
        due("10 none is open", two.count(7), 0);
        BranchedSums deep = endless();
        deep.begin();
        due("10 dive() that no node ends", deep.dive(), FULL);
        counts("10 nothing changed", deep, 5, 1, 1, 1, 0, 0, 11, 0, 0, 0, 0);
    }

    private static void diveRunsOutOfNodes() {
        BranchedSums x = endless();
        x.set(0, 2);
        x.set(1, 1);
        x.begin();
        int done = 1;
        for (int steps = 0; done == 1 && steps < 400; steps++) {
            done = x.step(1);
        }
        due("10 the nodes", x.count(6), 399);
        int steps = x.count(11);
        due("10 dive() is too much", x.dive(), FULL);
        due("10 nothing changed", x.count(6), 399);
        due("10 nothing changed", x.count(11), steps);
        due("10 nothing recorded", x.count(15), 4);
    }

    private static void giveUp() {
        BranchedSums x = five();
        due("11 giveUp() without a search", x.giveUp(), NONE);
        x.begin();
        x.step(1);
        due("11 giveUp()", x.giveUp(), 2);
        due("11 given up", x.node(1, 4), 5);
        due("11 given up", x.node(2, 4), 5);
        due("11 branched still", x.node(0, 4), 4);
        counts("11 over", x, 5, 0, 3, 0, 157, 21, 0, 1, 0, 0, 0);
        due("11 next()", x.next(), NONE);
        due("11 step(1)", x.step(1), NOT_POSSIBLE);
        due("11 giveUp() again", x.giveUp(), NONE);
        due("11 undo()", x.undo(), 3);
        due("11 open again", x.count(7), 2);
    }

    private static void type() {
        BranchedSums x = new BranchedSums();
        due("12 type(0)", x.type((char) 0), 1);
        due("12 type(65535)", x.type((char) 65535), 2);
        for (int length = 3; length <= 80; length++) {
            due("12 type('x')", x.type('x'), length);
        }
        due("12 an eighty-first", x.type('x'), FULL);
        due("12 the length", x.count(16), 80);
        due("12 no act", x.count(15), 0);
        x.add(1, 1);
        x.clearText();
        x.type('1');
        x.undo();
        due("12 the text is no part of a state", x.count(16), 1);
        x.begin();
        due("12 while a search goes on", x.type('/'), 2);
    }

    private static void clearText() {
        BranchedSums x = new BranchedSums();
        due("13 clearText() of none", x.clearText(), 0);
        typed(x, "5/5");
        due("13 clearText()", x.clearText(), 3);
        due("13 the length", x.count(16), 0);
        due("13 clearText() again", x.clearText(), 0);
        due("13 no act", x.count(15), 0);
        due("13 the text is empty", x.addAll(), -100);
        typed(x, "6/6");
        x.addAll();
        due("13 what is typed then", x.thing(0, 0), 6);
    }

    private static void undo() {
        BranchedSums x = new BranchedSums();
        due("14 undo() of none", x.undo(), NONE);
        for (int thing = 0; thing < 7; thing++) {
            x.add(thing + 1, 1);
            due("14 states", x.count(15), Math.min(4, thing + 1));
        }
        for (int left = 3; left >= 0; left--) {
            due("14 undo()", x.undo(), left);
            due("14 things", x.count(0), left + 3);
            due("14 states", x.count(15), left);
        }
        due("14 undo() beyond", x.undo(), NONE);
        due("14 things", x.count(0), 3);
        due("14 an act behind it", x.add(50, 1), 3);
        due("14 undo() of it", x.undo(), 0);
        due("14 things", x.count(0), 3);
        due("14 thing(2, 0)", x.thing(2, 0), 3);
    }

    private static void undoOfEachAct() {
        BranchedSums x = five();
        x.bar(0, 1, true);
        x.set(1, 2);
        x.begin();
        x.step(1);
        due("14 giveUp()", x.giveUp(), 1);
        due("14 undo() of giveUp()", x.undo(), 3);
        due("14 undo() of step()", x.undo(), 2);
        due("14 at the root", x.count(6), 1);
        due("14 undo() of begin()", x.undo(), 1);
        due("14 no search", x.count(8), NONE);
        due("14 the choice", x.count(4), 2);
        due("14 undo() of set()", x.undo(), 0);
        due("14 the choice", x.count(4), 0);
        due("14 the bar", x.count(2), 1);
        x.keep();
        typed(x, "5/5");
        x.thing(0, 0);
        x.node(0, 0);
        x.bestSum();
        x.heelOf(0, 0);
        due("14 none of these is an act", x.count(15), 0);
    }

    private static void keepAndRestore() {
        BranchedSums x = five();
        int recorded = x.count(15);
        due("16 restore() of none", x.restore(), NONE);
        due("16 nothing recorded", x.count(15), recorded);
        x.begin();
        x.step(1);
        recorded = x.count(15);
        due("15 keep()", x.keep(), 5);
        due("15 no act", x.count(15), recorded);
        x.step(200);
        x.remove(0);
        x.remove(0);
        x.set(0, 1);
        typed(x, "5/5");
        due("16 restore()", x.restore(), 5);
        counts("16 the search is back", x, 3, 0, 0, 1, 3, 2, 157, 21, 2, 1, 0, 0, 0);
        due("16 the text stays", x.count(16), 3);
        due("16 it goes on as before", x.step(200), 2);
        due("16 one act", x.undo(), 3);
        due("16 one act", x.undo(), 3 - 1);
        due("16 things as before", x.count(0), 3);
        due("16 the order as before", x.count(3), 1);
        due("16 the snapshot stays", x.restore(), 5);
        x.giveUp();
        x.remove(4);
        due("15 keep() in place of it", x.keep(), 4);
        x.remove(3);
        due("16 restore() while none goes on", x.restore(), 4);
        due("16 no search", x.count(6), 0);
        x.begin();
        due("16 restore() while a search goes on", x.restore(), 4);
        due("16 no search", x.count(5), 0);
        due("16 undo()", x.undo() >= 0 ? 1 : 0, 1);
        due("16 the search is back", x.count(5), 1);
        due("15 undo() leaves the snapshot", x.restore(), 4);
    }

    private static void thing() {
        BranchedSums x = with(30, 4, 2, 6, 3, 5, 2, 99, 50, 2, 1);
        x.bar(0, 3, true);
        x.bar(3, 4, true);
        int[][] wanted = {{4, 2, 1, 8, 0}, {6, 3, 2, 0, 0}, {5, 2, 0, 0, 0}, {99, 50, 4, 17, 0}, {2, 1, 3, 8, 0}};
        for (int thing = 0; thing < 5; thing++) {
            for (int what = 0; what < 5; what++) {
                due("17 thing(" + thing + ", " + what + ")", x.thing(thing, what), wanted[thing][what]);
            }
        }
        x.begin();
        x.step(200);
        for (int thing = 0; thing < 5; thing++) {
            due("17 thing(" + thing + ", 4) in the end", x.thing(thing, 4), thing == 3 ? 0 : 1);
        }
        x.remove(3);
        due("17 thing(0, 4) without a search", x.thing(0, 4), 0);
        for (int far : FAR) {
            due("17 thing(" + far + ", 0)", x.thing(far, 0), UNKNOWN);
            due("17 thing(0, " + far + ")", x.thing(0, far), BAD_VALUE);
        }
        due("17 thing(4, 9)", x.thing(4, 9), UNKNOWN);
        due("17 thing(3, 5)", x.thing(3, 5), BAD_VALUE);
    }

    private static void node() {
        BranchedSums x = endless();
        due("18 node(0, 0) without a search", x.node(0, 0), UNKNOWN);
        x.begin();
        x.step(3);
        nodeTells("18", x, 0, NONE, NONE, 0, 11, 4, 0, 0, 0);
        nodeTells("18", x, 1, 0, 5, 0, 11, 0, 1, 0, 32);
        nodeTells("18", x, 2, 0, 5, 1, 11, 4, 1, 32, 0);
        nodeTells("18", x, 3, 2, 4, 0, 11, 0, 2, 32, 16);
        nodeTells("18", x, 4, 2, 4, 1, 11, 4, 2, 48, 0);
        nodeTells("18", x, 5, 4, 3, 0, 11, 0, 3, 48, 8);
        nodeTells("18", x, 6, 4, 3, 1, 11, 0, 3, 56, 0);
        for (int far : FAR) {
            due("18 node(" + far + ", 0)", x.node(far, 0), UNKNOWN);
            due("18 node(0, " + far + ")", x.node(0, far), BAD_VALUE);
        }
        due("18 node(7, 0)", x.node(7, 0), UNKNOWN);
        due("18 node(7, 8)", x.node(7, 8), UNKNOWN);
        due("18 node(6, 8)", x.node(6, 8), BAD_VALUE);
        x.step(200);
        due("18 is told while more nodes come", x.node(6, 0), 4);
    }

    private static void next() {
        BranchedSums x = five();
        due("19 next() without a search", x.next(), NONE);
        x.begin();
        due("19 next() of the root", x.next(), 0);
        x.step(1);
        due("19 next()", x.next(), 2);
        due("19 next() changes nothing", x.next(), 2);
        x.set(0, 2);
        due("19 next() by another order", x.next(), 1);
        x.step(200);
        due("19 next() when it is over", x.next(), NONE);
    }

    private static void branchOf() {
        BranchedSums x = five();
        due("20 branchOf(0, 0) without a search", x.branchOf(0, 0), UNKNOWN);
        x.begin();
        due("20 the one that does not fit whole", x.branchOf(0, 0), 1);
        due("20 the heaviest", x.branchOf(0, 1), 1);
        due("20 by trials", x.branchOf(0, 2), 0);
        for (int wrong : FAR) {
            due("20 branchOf(0, " + wrong + ")", x.branchOf(0, wrong), BAD_VALUE);
            due("20 branchOf(" + wrong + ", 0)", x.branchOf(wrong, 0), UNKNOWN);
        }
        due("20 branchOf(0, 3)", x.branchOf(0, 3), BAD_VALUE);
        due("20 branchOf(1, 3)", x.branchOf(1, 3), UNKNOWN);
        x.step(1);
        due("20 of a child that has it in", x.branchOf(2, 0), 4);
        due("20 of a child that has it out", x.branchOf(1, 0), 3);
        due("20 of one that is branched", x.branchOf(0, 0), 1);
        BranchedSums whole = with(30, 9, 1, 8, 2, 7, 3);
        whole.begin();
        due("20 all fit and none is left out", whole.branchOf(0, 0), 0);
        whole.giveUp();
        whole.bar(0, 2, true);
        whole.begin();
        due("20 all fit and the heel leaves one out", whole.branchOf(0, 0), 2);
        due("20 the heaviest", whole.branchOf(0, 1), 2);
        BranchedSums alike = with(30, 9, 5, 5, 5, 7, 3);
        alike.begin();
        due("20 the lowest of several that are heaviest", alike.branchOf(0, 1), 0);
        BranchedSums none = with(5, 9, 50);
        none.begin();
        for (int choice = 0; choice < 3; choice++) {
            due("20 no thing is free", none.branchOf(0, choice), NONE);
        }
    }

    /** The bounds of the children are 10 and 10 by the thing 0, 15 and 8 by 1, 14 and 10 by 2. */
    private static void branchOfTrials() {
        BranchedSums x = with(10, 10, 5, 8, 10, 10, 10);
        due("20 the bound without 0", x.boundOf(0, 1), 10);
        due("20 the bound with 0", x.boundOf(1, 0), 10);
        due("20 the bound without 1", x.boundOf(0, 2), 15);
        due("20 the bound with 1", x.boundOf(2, 0), 8);
        due("20 the bound without 2", x.boundOf(0, 4), 14);
        due("20 the bound with 2", x.boundOf(4, 0), 10);
        x.begin();
        due("20 the least greater bound", x.branchOf(0, 2), 0);
        BranchedSums lesser = with(10, 9, 10, 9, 10, 9, 10, 4, 10);
        lesser.begin();
        due("20 the least lesser bound of several", lesser.branchOf(0, 2), 3);
        BranchedSums alike = with(10, 9, 10, 9, 10);
        alike.begin();
        due("20 the lowest of several", alike.branchOf(0, 2), 0);
    }

    private static void boundOf() {
        BranchedSums x = five();
        due("21 boundOf(0, 0)", x.boundOf(0, 0), 159);
        due("21 rounded down", x.boundOf(0, 4), 159);
        due("21 rounded down", x.boundOf(0, 2), 158);
        due("21 with the second", x.boundOf(2, 0), 159);
        due("21 all out", x.boundOf(0, 31), 0);
        due("21 in and the others out", x.boundOf(1, 30), 60);
        due("21 one that does not fit beside counts as out", x.boundOf(6, 0), NOT_POSSIBLE);
        due("21 one that does not fit beside counts as out", x.boundOf(4, 3), 90 + 50);
        due("21 a bit that is no thing", x.boundOf(32, 0), BAD_VALUE);
        due("21 a bit that is no thing", x.boundOf(0, 32), BAD_VALUE);
        due("21 a bit far up", x.boundOf(1 << 31, 0), BAD_VALUE);
        due("21 a bit far up", x.boundOf(0, 1 << 31), BAD_VALUE);
        due("21 a bit far up", x.boundOf(0, 1 << 30), BAD_VALUE);
        due("21 in and out", x.boundOf(3, 2), BAD_VALUE);
        due("21 in and out and not possible", x.boundOf(7, 4), BAD_VALUE);
        due("21 exactly as much as there is room", x.boundOf(3, 0), 159);
        x.bar(0, 2, true);
        due("21 bars between free ones do not matter", x.boundOf(0, 0), 159);
        due("21 one that is barred counts as out", x.boundOf(1, 0), 159);
        due("21 one that is barred counts as out", x.boundOf(4, 2), 140);
        due("21 those that are in bar each other", x.boundOf(5, 0), NOT_POSSIBLE);
        due("21 while a search goes on", x.begin(), 159);
        due("21 while a search goes on", x.boundOf(4, 2), 140);
        BranchedSums y = with(12, 9, 3, 8, 10, 30, 12);
        due("21 a part of the first that does not fit whole", y.boundOf(0, 0), 9 + 22);
        due("21 none of one that does not fit beside those that are in", y.boundOf(1, 0), 9);
        y.add(1, 1);
        due("21 none behind the first that does not fit whole", y.boundOf(0, 0), 9 + 22);
        due("21 one that fits in place of those that count as out", y.boundOf(1, 0), 9 + 1);
    }

    private static void heelOf() {
        BranchedSums x = five();
        due("22 heelOf(0, 0)", x.heelOf(0, 0), 21);
        due("22 heelOf(0, 1)", x.heelOf(0, 1), 4 + 8);
        due("22 heelOf(2, 0)", x.heelOf(2, 0), 3);
        due("22 heelOf(0, 31)", x.heelOf(0, 31), 0);
        due("22 heelOf(6, 0)", x.heelOf(6, 0), NOT_POSSIBLE);
        due("22 a bit that is no thing", x.heelOf(32, 0), BAD_VALUE);
        due("22 a bit that is no thing", x.heelOf(0, -1), BAD_VALUE);
        due("22 in and out", x.heelOf(1, 1), BAD_VALUE);
        due("22 in and out and not possible", x.heelOf(7, 1), BAD_VALUE);
        x.bar(0, 2, true);
        due("22 barred by one that is taken", x.heelOf(0, 0), 3);
        due("22 barred by one that is in", x.heelOf(4, 0), 4 + 8);
        due("22 those that are in bar each other", x.heelOf(5, 0), NOT_POSSIBLE);
        x.bar(0, 1, true);
        due("22 barred by one that is taken", x.heelOf(0, 0), 1 + 8 + 16);
    }

    private static void bestSum() {
        BranchedSums x = five();
        due("23 bestSum()", x.bestSum(), 159);
        x.bar(0, 1, true);
        due("23 bestSum() with a bar", x.bestSum(), 157);
        x.bar(0, 2, true);
        due("23 bestSum() with two", x.bestSum(), 140);
        x.setRoom(0);
        due("23 bestSum() without room", x.bestSum(), 0);
        x.setRoom(200);
        due("23 bestSum() with much room", x.bestSum(), 99 + 90 + 50 + 7);
        x.bar(1, 2, true);
        due("23 bestSum() with three", x.bestSum(), 99 + 50 + 7);
        x.begin();
        due("23 while a search goes on", x.bestSum(), 156);
        x.step(200);
        due("23 as the search ends", x.count(8), 156);
        BranchedSums all = with(200);
        for (int thing = 0; thing < 12; thing++) {
            all.add(99, 1);
        }
        due("23 bestSum() of all", all.bestSum(), 1188);
        due("23 and the bound", all.boundOf(0, 0), 1188);
    }

    private static void count() {
        BranchedSums x = five();
        x.bar(0, 1, true);
        x.bar(2, 1, true);
        x.set(0, 1);
        x.set(1, 1);
        typed(x, "abc");
        counts("24 no search", x, 0, 5, 30, 2, 1, 1, 0, 0, 0, NONE, NONE, NONE, 0, 0, 0, 0, 4, 3);
        x.begin();
        counts("24 begun", x, 5, 1, 1, 1, 0, 0, 159, 0, 0, 0, 0, 4, 3);
        x.step(1);
        counts("24 a step", x, 5, 1, 3, 1, 157, 21, 1, 1, 0, 0, 1, 4, 3);
        x.step(1);
        counts("24 two steps", x, 11, 2);
        for (int wrong : FAR) {
            due("24 count(" + wrong + ")", x.count(wrong), BAD_VALUE);
        }
        due("24 count(17)", x.count(17), BAD_VALUE);
        x.step(200);
        due("24 count(10) when it is over", x.count(10), 0);
        due("24 the nodes that ended are all but the branched ones", x.count(12) + x.count(13) + x.count(14),
            (x.count(6) + 1) / 2);
        BranchedSums below = five();
        below.begin();
        below.dive();
        due("24 the greatest bound of the open ones is below the best", below.node(1, 3), 158);
        due("24 the gap is 0 then", below.count(10), 0);
    }
}
