/** SEARCH: begin and end, the order, what a step does with a node. Rules about the thing to branch on are apart. */
final class SearchSentences extends Sentences {
    private static final String CHANGES = "add 5 5 = NOT_POSSIBLE; addAll = NOT_POSSIBLE; remove 0 = NOT_POSSIBLE;"
        + "bar 0 1 true = NOT_POSSIBLE; setRoom 5 = NOT_POSSIBLE; ";
    private static final String FORGOTTEN = "; count 5 = 0; count 6 = 0; count 7 = 0; count 8 = NONE; count 9 = NONE;"
        + "count 10 = NONE; count 11 = 0; count 12 = 0; count 13 = 0; count 14 = 0; node 0 0 = UNKNOWN; thing 0 4 = 0;"
        + "thing 1 4 = 0; next = NONE; branchOf 0 0 = UNKNOWN; step 1 = NOT_POSSIBLE; dive = NOT_POSSIBLE; giveUp = NONE";
    private static final String STILL_THERE = "count 6 = 3; count 8 = 159; count 9 = 0b00011; count 10 = 0; count 11 = 3;"
        + "thing 0 4 = 1; node 2 4 = 2";

    SearchSentences(Book book) {
        super(book);
    }

    @Override
    void all() {
        section("SEARCH");
        begins();
        changes();
        order();
        cutOff();
        heelIsLookedAt();
        branched();
        numbers();
        gap();
        over();
    }

    private void begins() {
        sentence("A search begins with one open node, the root, that fixes nothing;",
            FIVE + "begin = 159; count 6 = 1; count 7 = 1; node 0 0 = NONE; node 0 1 = NONE; node 0 2 = 0; node 0 3 = 159;"
                + "node 0 4 = 0; node 0 5 = 0; node 0 6 = 0; node 0 7 = 0; node 1 0 = UNKNOWN; next = 0",
            FIVE + "begin; step 200; begin = 159; count 6 = 1; count 7 = 1; node 0 4 = 0; node 1 0 = UNKNOWN; next = 0",
            "begin = 0; count 6 = 1; count 7 = 1; node 0 3 = 0; node 0 4 = 0; next = 0",
            "put 9/50; begin = 0; count 7 = 1; node 0 4 = 0");
        sentence("; the best choice so far is empty, its sum 0.",
            FIVE + "begin; count 8 = 0; count 9 = 0; thing 0 4 = 0; count 11 = 0; step 200; count 9 = 0b00011; thing 0 4 = 1;"
                + "begin; count 8 = 0; count 9 = 0; thing 0 4 = 0; count 10 = 159; count 11 = 0; count 12 = 0; count 13 = 0");
    }

    private void changes() {
        sentence("Things, room and bars can only be changed when no search goes on", () -> {
            run(FIVE).text("5/5").does("begin; " + CHANGES + "step 1; " + CHANGES
                + "count 0 = 5; count 1 = 30; count 2 = 0; count 6 = 3; step 1; " + CHANGES + "step 1 = 1; setRoom 5 = 30");
        });
        sentence("(none is begun, or no node is open)", () -> {
            String changed = "add 5 5 = 5; undo; addAll = 6; undo; remove 0 = 4; undo; bar 0 1 true = 1; undo; setRoom 5 = 30";
            run(FIVE).text("5/5").does(changed);
            run(FIVE).text("5/5").does("begin; step 200; " + changed);
            run(FIVE).text("5/5").does("begin; step 1; giveUp = 2; " + changed);
            run(FIVE).text("5/5").does("begin; dive = 2; dive = 1; " + changed);
            run(FIVE).text("5/5").does("begin; undo; " + changed);
            run(FIVE).text("5/5").does("keep; begin; restore = 5; " + changed);
        });
        sentence("; a search that is over is forgotten by that.", () -> {
            String over = FIVE + "begin; step 200; ";
            run(over + "add 5 5 = 5" + FORGOTTEN);
            run(over).text("5/5").does("addAll = 6" + FORGOTTEN);
            run(over + "remove 4 = 4" + FORGOTTEN);
            run(over + "bar 0 1 true = 1" + FORGOTTEN);
            run(over + "setRoom 5 = 30" + FORGOTTEN);
            run(FIVE + "bar 0 1 true; begin; giveUp = 1; bar 0 1 false = 0" + FORGOTTEN);
            run(over).text("5/5!").does("add 0 5 = BAD_VALUE; addAll = -104; remove 5 = UNKNOWN; bar 0 1 false = NONE;"
                + "bar 0 0 true = BAD_VALUE; setRoom 30 = NONE; setRoom 201 = BAD_VALUE; set 0 1 = 0; set 1 2 = 0; keep = 5;"
                + STILL_THERE);
            run(over + "add 5 5 = 5; undo = 3; " + STILL_THERE);
        });
    }

    /** By 17/5 18/4 12/2 in a room of 5 the older child has the bound 22, the newer one 18; by FIVE 158 and 159. */
    private void order() {
        String older = "put 17/5 18/4 12/2; setRoom 5; begin = 25; step 1; node 1 3 = 22; node 2 3 = 18; ";
        sentence("A step takes an open node by the order (a setting): 0 the newest",
            older + "count 3 = 0; next = 2; step 1 = 1; node 2 4 = 2; node 1 4 = 0",
            FIVE + "begin; step 1; next = 2; step 1; node 2 4 = 2; node 1 4 = 0",
            ENDLESS + "begin; step 3 = 3; node 5 4 = 0; node 6 4 = 0; next = 6; set 0 2; step 1; node 1 4 = 4; node 7 4 = 0;"
                + "node 8 4 = 0; set 0 0; next = 8; step 1; next = 10");
        sentence(", 1 the one with the greatest bound",
            older + "set 0 1; next = 1; step 1 = 1; node 1 4 = 4; node 2 4 = 0",
            FIVE + "set 0 1; begin; step 1; next = 2; step 1; node 2 4 = 2; node 1 4 = 0");
        sentence(", of several the oldest",
            ENDLESS + "set 0 1; begin; step 1; node 1 3 = 11; node 2 3 = 11; next = 1; step 1; next = 2; step 1; next = 3;"
                + "step 1; node 3 4 = 4; node 4 4 = 0");
        sentence(", 2 the oldest.",
            older + "set 0 2; next = 1; step 1; node 1 4 = 4; node 2 4 = 0",
            FIVE + "set 0 2; begin; step 1; next = 1; step 1; node 1 4 = 4; node 2 4 = 0; next = 2; step 1; node 2 4 = 2",
            WIDE + "begin; step 1; next = 1; step 1; next = 2; step 1; next = 3");
    }

    private void cutOff() {
        sentence("With it this is done, the first that holds: it is cut off, if its bound is not greater than the best sum"
            + " so far (reason 1).",
            "put 19/5 2/4 18/4; setRoom 6; begin = 25; step 2 = 2; node 1 3 = 19; count 8 = 19; next = 1; node 1 4 = 0;"
                + "step 1 = 1; node 1 4 = 1; count 12 = 1; count 6 = 3",
            FIVE + "begin; step 2; node 1 3 = 158; count 8 = 159; step 1; node 1 4 = 1; count 12 = 1",
            "put 4/6 7/6 4/7; setRoom 8; begin = 8; step 1; node 1 3 = 8; count 8 = 7; step 1; node 1 4 = 4; count 12 = 0",
            "begin = 0; step 1 = 1; node 0 4 = 1; count 12 = 1; count 13 = 0",
            "put 9/50; begin = 0; step 1; node 0 4 = 1; count 12 = 1; count 13 = 0; count 9 = 0",
            "put 1/1; begin = 1; step 1; node 0 4 = 2; count 12 = 0; count 13 = 1");
    }

    private void heelIsLookedAt() {
        sentence("Otherwise its heel is looked at: if its sum is greater than the best so far, it is the best choice then.",
            FIVE + "begin; step 1; count 8 = 157; count 9 = 0b10101; step 1; count 8 = 159; count 9 = 0b00011; step 1;"
                + "count 8 = 159; count 9 = 0b00011",
            "put 1/1; begin; step 1; count 8 = 1; count 9 = 0b1",
            "put 7/1 3/6 7/3 7/2; setRoom 5; begin = 18; step 1; count 8 = 14; count 9 = 0b1001; node 2 6 = 0b0100;"
                + "heelOf 0b0100 0 = 0b0101; step 1; node 2 4 = 4; count 8 = 14; count 9 = 0b1001",
            FIVE + "set 0 2; begin; step 1; heelOf 0 0b00010 = 0b10101; step 1; node 1 4 = 4; count 8 = 157;"
                + "count 9 = 0b10101");
        sentence("If the bound of the node is not greater than the sum of its heel, it is closed (reason 2).",
            "put 5/5; begin = 5; step 1 = 1; node 0 4 = 2; count 6 = 1; count 7 = 0; count 13 = 1",
            FIVE + "begin; step 2; node 2 3 = 159; node 2 4 = 2; count 6 = 3; count 13 = 1",
            "put 4/6 7/6 4/7; setRoom 8; begin = 8; heelOf 0 0 = 0b010; step 1; node 0 4 = 4; count 6 = 3; count 13 = 0",
            "put 50/10 40/10 30/10; setRoom 20; begin = 90; step 1; node 0 4 = 2; count 9 = 0b011");
    }

    private void branched() {
        sentence("Otherwise it is branched on a free thing: one child with that thing out, and then (newer) one with it "
                + "in;",
            FIVE + "begin; branchOf 0 0 = 1; step 1; node 0 4 = 4; count 6 = 3; node 1 0 = 0; node 1 1 = 1; node 1 2 = 0;"
                + "node 1 6 = 0; node 1 7 = 0b00010; node 1 5 = 1; node 2 0 = 0; node 2 1 = 1; node 2 2 = 1;"
                + "node 2 6 = 0b00010; node 2 7 = 0; node 2 5 = 1",
            WIDE + "begin; step 3; node 5 0 = 2; node 5 1 = 1; node 5 6 = 0b01; node 5 7 = 0b10; node 6 6 = 0b11;"
                + "node 6 7 = 0; node 3 7 = 0b11; node 4 6 = 0b10; node 4 7 = 0b01; node 4 5 = 2");
        sentence("children that are not possible, or whose bound is not greater than the best sum so far, are cut off at "
                + "once (reason 3), the others are open then.",
            "put 17/1 9/8 8/5; setRoom 12; begin = 31; step 1; count 8 = 25; node 1 3 = 25; node 1 4 = 3; node 2 3 = 26;"
                + "node 2 4 = 0; count 14 = 1; count 7 = 1",
            "put 16/1 14/9 15/6; bar 0 2 true; setRoom 13; begin = 40; step 1; count 8 = 30; node 1 3 = 31; node 1 4 = 0;"
                + "node 2 3 = 30; node 2 4 = 3; count 14 = 1; count 7 = 1",
            "put 2x10/10; setRoom 15; begin = 15; step 1; node 1 3 = 10; node 1 4 = 3; node 2 3 = 10; node 2 4 = 3;"
                + "count 8 = 10; count 14 = 2; count 7 = 0; count 12 = 0; count 5 = 0",
            FIVE + "begin; step 1; node 1 3 = 158; node 1 4 = 0; node 2 3 = 159; node 2 4 = 0; count 8 = 157; count 14 = 0");
    }

    private void numbers() {
        sentence("Nodes are numbered from 0 (the root) in the order in which they were made, children that were cut off "
                + "at once, too.",
            "put 2x10/10; setRoom 15; begin; step 1; count 6 = 3; node 0 4 = 4; node 1 4 = 3; node 2 4 = 3;"
                + "node 3 4 = UNKNOWN; node -1 4 = UNKNOWN",
            "put 9/4 20/8 10/3 19/8; setRoom 12; begin = 32; step 2; node 2 4 = 4; node 3 4 = 3; node 4 4 = 3;"
                + "count 6 = 5; next = 1; step 1; node 5 0 = 1; node 5 4 = 3; node 6 0 = 1; node 6 4 = 0; step 1;"
                + "node 7 0 = 6; node 8 0 = 6; count 6 = 9",
            FIVE + "begin; step 200; begin; step 1; node 1 0 = 0; node 2 0 = 0; node 3 0 = UNKNOWN");
        sentence("A search can make 400 nodes at most",
            WIDE + "begin; step 199 = 199; count 6 = 399; node 398 2 = 1; node 399 4 = UNKNOWN; node 400 4 = UNKNOWN; giveUp;"
                + "begin = 11; count 6 = 1; step 199 = 199; count 6 = 399",
            "put 2/2 7/7 8/6 19/8 14/1 19/2 4/4 6/4 7/8 6/9 12/3 6/3; bar 5 4 true; setRoom 35; begin; step 200 = 200;"
                + "count 6 = 399; count 7 = 0; count 8 = 79; bestSum = 79");
        sentence(": a step that would make one more is not possible.",
            WIDE + "begin; step 199 = 199; step 1 = FULL; dive = FULL; step 200 = FULL; count 6 = 399; count 11 = 199;"
                + "count 8 = 10; count 7 = 148; giveUp = 148",
            WIDE + "begin; step 198 = 198; count 6 = 397; step 2 = FULL; count 6 = 397; count 11 = 198; step 1 = 1;"
                + "count 6 = 399",
            WIDE + "begin; step 200 = FULL; count 6 = 1; count 8 = 0; count 11 = 0; node 0 4 = 0; count 7 = 1",
            "put 9/5 18/9 8/6 11/3 18/4 19/3 10/4 6/6 16/2 1/3 8/4 13/6; bar 5 8 true; bar 1 6 true; setRoom 32; set 0 2;"
                + "set 1 1; begin; step 199 = 199; count 6 = 399; count 7 = 73; step 1 = FULL; dive = 1; count 6 = 399;"
                + "count 7 = 72; undo; set 0 0; step 1 = 1; count 6 = 399; count 7 = 72; count 11 = 200; set 0 2;"
                + "step 1 = FULL");
    }

    private void gap() {
        sentence("The gap is the greatest bound of the open nodes less the best sum so far",
            FIVE + "begin; count 10 = 159; step 1; count 8 = 157; count 10 = 2",
            "put 17/5 18/4 12/2; setRoom 5; begin; count 10 = 25; step 1; count 8 = 12; count 10 = 10; step 1; count 8 = 18;"
                + "count 10 = 4",
            ENDLESS + "begin; count 10 = 11; step 5; count 10 = 1");
        sentence(", 0 if no node is open",
            FIVE + "begin; step 200; count 7 = 0; count 10 = 0",
            FIVE + "begin; giveUp; count 8 = 0; count 10 = 0",
            "put 2x10/10; setRoom 15; begin; step 1; count 7 = 0; count 10 = 0");
        sentence("(or it would be below 0).",
            FIVE + "begin; step 2; count 7 = 1; node 1 3 = 158; count 8 = 159; count 10 = 0",
            "put 19/5 2/4 18/4; setRoom 6; begin; step 2; count 7 = 1; node 1 3 = 19; count 8 = 19; count 10 = 0");
    }

    private void over() {
        sentence("A search is over when no node is open",
            FIVE + "count 5 = 0; begin; count 5 = 1; step 1; count 5 = 1; step 1; count 7 = 1; count 5 = 1; step 1;"
                + "count 7 = 0; count 5 = 0; step 1 = NOT_POSSIBLE; next = NONE; begin = 159; count 5 = 1",
            FIVE + "begin; giveUp; count 5 = 0; begin = 159");
        sentence(": the best choice is the best of all then.", () -> {
            for (int order = 0; order < 3; order++) {
                for (int choice = 0; choice < 3; choice++) {
                    String set = "set 0 " + order + "; set 1 " + choice + "; begin; step 200; count 5 = 0; ";
                    run(FIVE + set + "count 8 = 159; count 9 = 0b00011; bestSum = 159");
                    run(FIVE + "bar 0 1 true; " + set + "count 8 = 157; count 9 = 0b10101; bestSum = 157");
                    run(FIVE + "bar 0 1 true; bar 0 2 true; bar 1 3 true; " + set + "count 8 = 140; count 9 = 0b01100; bestSum = 140");
                    run("put 4/6 7/6 4/7; setRoom 13; " + set + "count 8 = 11; bestSum = 11");
                }
            }
        });
    }
}
