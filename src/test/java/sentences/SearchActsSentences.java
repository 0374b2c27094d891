/** Promises 7 to 11: the settings and the acts of a search. */
final class SearchActsSentences extends Sentences {
    /** A search of 230 steps, by the order 1 and the choice 1: with 200 of them done, nodes are open. */
    private static final String LONG = "put 13/1 5/3 17/6 7/2 17/2 17/7 17/1 11/6 3/7 16/2 10/4 1/3; bar 4 6 true; bar 9 0 true;"
        + "bar 3 6 true; setRoom 42; set 0 1; set 1 1; begin; ";
    /** A dive from the root on: a node whose children are both cut off at once while an older one is open. */
    private static final String DEAD_END = "put 9/4 20/8 10/3 19/8; setRoom 12; begin = 32; ";

    SearchActsSentences(Book book) {
        super(book);
    }

    @Override
    void all() {
        set();
        begin();
        step();
        stepRefuses();
        dive();
        diveEnds();
        giveUp();
    }

    private void set() {
        section("7");
        sentence("Sets the order of nodes, or the choice of the thing",
            "set 0 2 = 0; count 3 = 2; count 4 = 0; set 1 1 = 0; count 3 = 2; count 4 = 1",
            FIVE + "begin; step 1; next = 2; set 0 2; next = 1; set 0 1; next = 2; set 0 0; next = 2",
            "put 10/5 8/10 10/10; setRoom 10; begin; set 1 1; step 1; node 1 1 = 1; undo; set 1 2; step 1; node 1 1 = 0");
        sentence("; also while a search goes on.",
            FIVE + "begin; set 0 1 = 0; count 5 = 1; count 6 = 1; step 1; set 1 2 = 0; count 6 = 3; count 8 = 157; count 7 = 2;"
                + "step 200; set 0 0 = 1; count 8 = 159; count 6 = 3; node 2 4 = 2; thing 0 4 = 1");
        sentence("This is an act.",
            "set 0 1; set 1 2; count 15 = 2; undo = 1; count 3 = 1; count 4 = 0; undo = 0; count 3 = 0; count 4 = 0");
        sentence("which: 0 for the order, 1 for the choice",
            "set 0 1 = 0; count 3 = 1; count 4 = 0; set 1 2 = 0; count 3 = 1; count 4 = 2");
        sentence("value: 0 to 2",
            "set 0 1 = 0; set 0 2 = 1; set 0 0 = 2; set 1 1 = 0; set 1 2 = 1; set 1 0 = 2; set 1 3 = BAD_VALUE");
        sentence("Returns the previous one;", "set 0 2 = 0; set 0 1 = 2; set 1 1 = 0; set 1 2 = 1; set 0 0 = 1; set 1 0 = 2");
        sentence("UNKNOWN (which)", "set 2 0 = UNKNOWN; set -1 0 = UNKNOWN; set least 1 = UNKNOWN; set most 1 = UNKNOWN;"
            + "set 2 3 = UNKNOWN; set -1 -1 = UNKNOWN; set 32 1 = UNKNOWN; set 257 1 = UNKNOWN; count 15 = 0");
        sentence("BAD_VALUE",
            "set 0 3 = BAD_VALUE; set 0 -1 = BAD_VALUE; set 1 3 = BAD_VALUE; set 1 -1 = BAD_VALUE;"
                + "set 0 least = BAD_VALUE; set 1 most = BAD_VALUE; set 0 4 = BAD_VALUE; set 1 256 = BAD_VALUE;"
                + "count 3 = 0; count 4 = 0; count 15 = 0");
        sentence("NONE if it is so already.",
            "set 0 0 = NONE; set 1 0 = NONE; set 0 2; set 0 2 = NONE; set 1 1; set 1 1 = NONE; count 15 = 2; begin;"
                + "set 0 2 = NONE; set 1 1 = NONE; count 15 = 3");
    }

    private void begin() {
        section("8");
        sentence("Begins a search.",
            FIVE + "begin = 159; count 5 = 1; count 6 = 1; count 7 = 1; count 8 = 0; count 9 = 0; count 10 = 159;"
                + "count 11 = 0; next = 0; node 0 4 = 0",
            FIVE + "begin; step 200; begin = 159; count 5 = 1; count 6 = 1; count 11 = 0; count 12 = 0; count 13 = 0;"
                + "count 9 = 0",
            FIVE + "begin; step 1; giveUp; begin = 159; count 6 = 1; count 7 = 1; count 8 = 0");
        sentence("This is an act.",
            FIVE + "begin; count 15 = 4; undo = 3; count 6 = 0; count 8 = NONE; count 0 = 5",
            "begin; count 15 = 1; step 1; begin; count 15 = 3; undo = 2; count 11 = 1; node 0 4 = 1; count 5 = 0");
        sentence("Returns the bound of the root", "begin = 0", "put 9/50; begin = 0", "put 9/1; setRoom 0; begin = 0",
            FIVE + "bar 0 1 true; bar 0 2 true; begin = 159; node 0 3 = 159", "put 12x99/1; begin = 1188; node 0 3 = 1188",
            "put 12x2/2; setRoom 11; begin = 11; node 0 3 = 11");
        sentence("NOT_POSSIBLE if a search goes on.",
            "begin = 0; begin = NOT_POSSIBLE; step 1; begin = 0; giveUp = 1; begin = 0",
            FIVE + "begin; begin = NOT_POSSIBLE; step 1; begin = NOT_POSSIBLE; count 6 = 3; step 1; begin = NOT_POSSIBLE;"
                + "step 1; begin = 159");
    }

    private void step() {
        section("9");
        sentence("Does steps",
            FIVE + "begin; step 1 = 1; count 11 = 1; node 0 4 = 4; count 6 = 3; step 1 = 1; count 11 = 2; node 2 4 = 2;"
                + "step 1 = 1; node 1 4 = 1; count 11 = 3",
            FIVE + "begin; step 2 = 2; count 11 = 2; node 2 4 = 2; node 1 4 = 0",
            FIVE + "set 0 2; begin; step 2 = 2; node 1 4 = 4; node 2 4 = 0; node 3 0 = 1");
        sentence(", as long as nodes are open.",
            FIVE + "begin; step 4 = 3; count 7 = 0; count 11 = 3",
            FIVE + "begin; step 200 = 3; count 11 = 3; step 1 = NOT_POSSIBLE",
            "begin; step 200 = 1; node 0 4 = 1",
            FIVE + "begin; step 1; step 3 = 2; count 11 = 3",
            LONG + "step 200; step 200 = 30");
        sentence("This is an act.",
            FIVE + "begin; step 3 = 3; count 15 = 4; undo = 3; count 6 = 1; count 8 = 0; count 9 = 0; count 11 = 0;"
                + "node 0 4 = 0; count 7 = 1; undo = 2; count 6 = 0",
            LONG + "step 200 = 200; undo = 3; count 6 = 1; count 11 = 0");
        sentence("steps: 1 to 200",
            LONG + "step 1 = 1; count 11 = 1; step 198 = 198; step 1 = 1; count 11 = 200; count 5 = 1",
            LONG + "step 200 = 200; count 11 = 200; count 5 = 1; step 199 = 30; count 11 = 230; count 5 = 0");
        sentence("Returns how many steps were done;",
            LONG + "step 2 = 2; step 7 = 7; step 100 = 100; step 200 = 121; count 11 = 230");
    }

    private void stepRefuses() {
        sentence("; BAD_VALUE;",
            FIVE + "step 0 = BAD_VALUE; begin; step 0 = BAD_VALUE; step -1 = BAD_VALUE; step 201 = BAD_VALUE;"
                + "step least = BAD_VALUE; step most = BAD_VALUE; step 257 = BAD_VALUE; step 65537 = BAD_VALUE;"
                + "count 11 = 0; count 15 = 4; giveUp; step 201 = BAD_VALUE");
        sentence("NOT_POSSIBLE if no node is open",
            "step 1 = NOT_POSSIBLE; step 200 = NOT_POSSIBLE; begin; step 1 = 1; step 1 = NOT_POSSIBLE; begin; giveUp;"
                + "step 1 = NOT_POSSIBLE; count 15 = 4; undo = 3; step 1 = 1",
            FIVE + "begin; step 3; step 1 = NOT_POSSIBLE; setRoom 9; step 1 = NOT_POSSIBLE");
        sentence("FULL if a step would make more nodes than there can be.",
            WIDE + "begin; step 199 = 199; step 1 = FULL; step 200 = FULL; count 6 = 399; count 11 = 199; count 15 = 4;"
                + "undo = 3; count 6 = 1",
            WIDE + "begin; step 200 = FULL; count 6 = 1; count 11 = 0; next = 0; node 0 4 = 0; count 8 = 0",
            WIDE + "begin; step 100 = 100; step 99 = 99; step 1 = FULL",
            WIDE + "begin; step 100; step 100 = FULL; count 6 = 201",
            "put 2/2 7/7 8/6 19/8 14/1 19/2 4/4 6/4 7/8 6/9 12/3 6/3; bar 5 4 true; setRoom 35; begin; step 200 = 200;"
                + "count 6 = 399");
    }

    private void dive() {
        section("10");
        sentence("Dives: does steps by the order 0",
            FIVE + "set 0 2; begin; step 1; next = 1; dive = 1; node 2 4 = 2; node 1 4 = 0; count 3 = 2; next = 1",
            "put 17/5 18/4 12/2; setRoom 5; set 0 1; begin; step 1; next = 1; dive = 1; node 2 4 = 2; node 1 4 = 0;"
                + "count 3 = 1",
            FIVE + "begin; dive = 2; node 2 4 = 2; count 11 = 2");
        sentence("This is an act.",
            FIVE + "begin; dive = 2; count 15 = 4; undo = 3; count 6 = 1; count 8 = 0; count 11 = 0; node 0 4 = 0;"
                + "count 7 = 1");
        sentence("Returns how many steps were done",
            FIVE + "begin; dive = 2; count 11 = 2; dive = 1; count 11 = 3", DEAD_END + "dive = 4; count 11 = 4",
            "put 5/5; begin; dive = 1; count 11 = 1");
        sentence("; NOT_POSSIBLE if no node is open",
            "dive = NOT_POSSIBLE; begin; dive = 1; dive = NOT_POSSIBLE; begin; giveUp; dive = NOT_POSSIBLE; count 15 = 4",
            FIVE + "begin; step 3; dive = NOT_POSSIBLE");
        sentence("; FULL if a step would make more nodes than there can be.",
            ENDLESS + "begin; dive = FULL; count 6 = 1; count 11 = 0; count 8 = 0; count 15 = 4; next = 0; step 9 = 9;"
                + "dive = FULL; count 11 = 9",
            WIDE + "begin; step 199; dive = FULL; count 6 = 399; count 11 = 199",
            "put 9/5 18/9 8/6 11/3 18/4 19/3 10/4 6/6 16/2 1/3 8/4 13/6; bar 5 8 true; bar 1 6 true; setRoom 32; set 0 2;"
                + "set 1 1; begin; step 199 = 199; step 1 = FULL; dive = 1; count 6 = 399; count 11 = 200; step 1 = FULL");
    }

    private void diveEnds() {
        sentence("until a node is closed",
            FIVE + "begin; dive = 2; node 2 4 = 2; node 1 4 = 0; count 7 = 1; count 13 = 1; count 12 = 0",
            "put 5/5; begin; dive = 1; node 0 4 = 2; count 7 = 0");
        sentence("or cut off as it is taken",
            FIVE + "begin; step 2; dive = 1; node 1 4 = 1; count 12 = 1; count 7 = 0",
            "begin; dive = 1; node 0 4 = 1; count 12 = 1",
            "put 16/8 11/5 13/6 3/6; bar 1 0 true; setRoom 9; set 0 1; begin; step 3; count 7 = 2; dive = 1;"
                + "node 3 4 = 1; node 2 4 = 0; count 7 = 1; dive = 1; node 2 4 = 1; count 12 = 2");
        sentence(", or none is open.",
            "put 2x10/10; setRoom 15; begin; dive = 1; count 7 = 0; count 12 = 0; count 13 = 0; count 14 = 2",
            DEAD_END + "dive = 4; count 7 = 0; count 14 = 5; count 12 = 0; count 13 = 0; node 2 4 = 4; node 3 4 = 3;"
                + "node 4 4 = 3; node 1 4 = 4; node 6 4 = 4; node 7 4 = 3; node 8 4 = 3");
    }

    private void giveUp() {
        section("11");
        sentence("Gives the search up: all open nodes go.",
            FIVE + "begin; step 1; giveUp = 2; count 7 = 0; count 5 = 0; node 1 4 = 5; node 2 4 = 5; node 0 4 = 4;"
                + "next = NONE; count 8 = 157; count 9 = 0b10101; count 10 = 0; count 6 = 3; count 11 = 1; count 12 = 0;"
                + "count 13 = 0; count 14 = 0",
            FIVE + "begin; step 2; giveUp = 1; node 1 4 = 5; node 2 4 = 2; node 0 4 = 4; count 8 = 159; count 13 = 1",
            FIVE + "begin; giveUp = 1; node 0 4 = 5; count 8 = 0; setRoom 9 = 30; count 6 = 0",
            "put 17/1 9/8 8/5; setRoom 12; begin; step 1; giveUp = 1; node 1 4 = 3; node 2 4 = 5; count 14 = 1");
        sentence("This is an act.",
            FIVE + "begin; step 1; giveUp; count 15 = 4; undo = 3; count 7 = 2; node 1 4 = 0; node 2 4 = 0; next = 2;"
                + "step 1 = 1");
        sentence("Returns how many were open",
            FIVE + "begin; giveUp = 1; begin; step 1; giveUp = 2; begin; step 2; giveUp = 1",
            WIDE + "begin; step 10; count 7 = 11; giveUp = 11");
        sentence("; NONE if none was.",
            "giveUp = NONE; begin; giveUp = 1; giveUp = NONE; begin; step 1; giveUp = NONE; count 15 = 4",
            FIVE + "giveUp = NONE; begin; step 200; giveUp = NONE; count 8 = 159; node 2 4 = 2");
    }
}
