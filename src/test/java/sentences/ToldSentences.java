/** Promises 17 to 24: what is told. */
final class ToldSentences extends Sentences {
    /** Ratios 2, 2, 2.5, 1.98 and 2: two pairs bar each other. */
    private static final String MIXED = "put 4/2 6/3 5/2 99/50 2/1; bar 0 3 true; bar 3 4 true; ";

    ToldSentences(Book book) {
        super(book);
    }

    @Override
    void all() {
        thing();
        node();
        nodeTellsHow();
        nodeRefuses();
        next();
        branchOf();
        boundOf();
        heelOf();
        bestSum();
        counts();
        countsOfSearch();
        countsOfNodes();
    }

    private void thing() {
        section("17");
        sentence("thing: a thing", "put 2x5/5; thing 0 0 = 5; thing 1 0 = 5; thing 2 0 = UNKNOWN; thing -1 0 = UNKNOWN");
        sentence("what: 0 for its worth", "put 1/9 99/9; thing 0 0 = 1; thing 1 0 = 99");
        sentence(", 1 for its weight", "put 9/1 9/50; thing 0 1 = 1; thing 1 1 = 50");
        sentence(", 2 for its place in the order of the bound, from 0",
            MIXED + "thing 0 2 = 1; thing 1 2 = 2; thing 2 2 = 0; thing 3 2 = 4; thing 4 2 = 3; remove 2; thing 0 2 = 0;"
                + "thing 2 2 = 3",
            "put 12x3/3; thing 0 2 = 0; thing 11 2 = 11; remove 0; add 4 3 = 11; thing 11 2 = 0; thing 0 2 = 1;"
                + "thing 10 2 = 11");
        sentence(", 3 for the things that it bars (as bits, the thing t by the bit t)",
            MIXED + "thing 0 3 = 0b01000; thing 1 3 = 0; thing 2 3 = 0; thing 3 3 = 0b10001; thing 4 3 = 0b01000",
            "put 12x1/1; bar 11 0 true; thing 0 3 = 0b100000000000; thing 11 3 = 0b000000000001");
        sentence(", 4 for whether it is in the best choice (1, otherwise 0)",
            FIVE + "thing 0 4 = 0; begin; thing 0 4 = 0; step 1; thing 0 4 = 1; thing 1 4 = 0; thing 2 4 = 1; thing 3 4 = 0;"
                + "thing 4 4 = 1; step 1; thing 1 4 = 1; thing 2 4 = 0; giveUp; thing 1 4 = 1; setRoom 9; thing 1 4 = 0",
            "put 12x1/1; begin; step 1; thing 0 4 = 1; thing 11 4 = 1; begin; thing 11 4 = 0");
        sentence("Returns the number", "put 7/8; thing 0 0 = 7; thing 0 1 = 8; thing 0 2 = 0; thing 0 3 = 0; thing 0 4 = 0");
        sentence("UNKNOWN",
            "thing 0 0 = UNKNOWN; put 5/5; thing 1 0 = UNKNOWN; thing least 0 = UNKNOWN; thing most 0 = UNKNOWN;"
                + "thing 1 5 = UNKNOWN; thing -1 -1 = UNKNOWN; thing 12 0 = UNKNOWN; thing 16 0 = UNKNOWN;"
                + "thing 32 0 = UNKNOWN; thing 256 0 = UNKNOWN; thing 65536 0 = UNKNOWN; remove 0; thing 0 0 = UNKNOWN");
        sentence("BAD_VALUE.",
            "put 5/5; thing 0 5 = BAD_VALUE; thing 0 -1 = BAD_VALUE; thing 0 least = BAD_VALUE; thing 0 most = BAD_VALUE;"
                + "thing 0 8 = BAD_VALUE; thing 0 32 = BAD_VALUE; thing 0 256 = BAD_VALUE; thing 0 65536 = BAD_VALUE");
    }

    /** By the choice 1 and the order 0, ENDLESS is branched on the things 0, 1 and 2, each time below the child with it in. */
    private void node() {
        section("18");
        String deep = ENDLESS + "set 1 1; begin; step 3; ";
        sentence("node: a node of the search",
            "node 0 0 = UNKNOWN; begin; node 0 3 = 0; node 1 3 = UNKNOWN; node -1 3 = UNKNOWN; giveUp; node 0 3 = 0; setRoom 1;"
                + "node 0 3 = UNKNOWN", deep + "node 6 0 = 4; node 7 0 = UNKNOWN",
            WIDE + "begin; step 199; node 398 2 = 1; node 399 3 = UNKNOWN");
        sentence("what: 0 for the node from which it comes (NONE for the root)",
            deep + "node 0 0 = NONE; node 1 0 = 0; node 2 0 = 0; node 3 0 = 2; node 4 0 = 2; node 5 0 = 4; node 6 0 = 4",
            WIDE + "begin; step 3; node 3 0 = 1; node 4 0 = 1; node 5 0 = 2; node 6 0 = 2; step 196; node 399 0 = UNKNOWN");
        sentence(", 1 for the thing that it fixes (NONE for the root)",
            deep + "node 0 1 = NONE; node 1 1 = 0; node 2 1 = 0; node 3 1 = 1; node 4 1 = 1; node 5 1 = 2; node 6 1 = 2",
            "put 11x9/1 10/50; setRoom 55; set 1 1; begin = 107; step 1; node 0 1 = NONE; node 1 1 = 11; node 2 1 = 11");
        sentence(", 2 for whether that is in (1, otherwise 0)",
            deep + "node 0 2 = 0; node 1 2 = 0; node 2 2 = 1; node 3 2 = 0; node 4 2 = 1; node 5 2 = 0; node 6 2 = 1");
        sentence(", 3 for its bound (0 if it is not possible)",
            FIVE + "begin; step 1; node 0 3 = 159; node 1 3 = 158; node 2 3 = 159; giveUp; node 1 3 = 158",
            "put 2x10/10; setRoom 15; begin; step 1; node 0 3 = 15; node 1 3 = 10; node 2 3 = 10",
            "begin; node 0 3 = 0", "put 12x99/1; begin; node 0 3 = 1188");
        sentence(", 5 for how deep it is (0 for the root)",
            deep + "node 0 5 = 0; node 1 5 = 1; node 2 5 = 1; node 3 5 = 2; node 4 5 = 2; node 5 5 = 3; node 6 5 = 3");
        sentence(", 6 for things that are in, as bits",
            deep + "node 0 6 = 0; node 1 6 = 0; node 2 6 = 0b001; node 3 6 = 0b001; node 4 6 = 0b011; node 5 6 = 0b011;"
                + "node 6 6 = 0b111");
        sentence(", 7 for things that are out, as bits (those that were fixed alone)",
            deep + "node 0 7 = 0; node 1 7 = 0b001; node 2 7 = 0; node 3 7 = 0b010; node 4 7 = 0; node 5 7 = 0b100;"
                + "node 6 7 = 0",
            "put 99/31 10/5 9/5 8/5; bar 1 2 true; setRoom 11; set 1 1; begin; step 1; node 1 7 = 0b0010; node 2 7 = 0;"
                + "node 2 6 = 0b0010");
    }

    private void nodeTellsHow() {
        sentence(", 4 for how it is: 0 open", FIVE + "begin; node 0 4 = 0; step 1; node 1 4 = 0; node 2 4 = 0");
        sentence(", 1 cut off as it was taken", FIVE + "begin; step 3; node 1 4 = 1", "begin; step 1; node 0 4 = 1");
        sentence(", 2 closed", FIVE + "begin; step 2; node 2 4 = 2", "put 5/5; begin; step 1; node 0 4 = 2");
        sentence(", 3 cut off at once", "put 2x10/10; setRoom 15; begin; step 1; node 1 4 = 3; node 2 4 = 3",
            "put 17/1 9/8 8/5; setRoom 12; begin; step 1; giveUp; node 1 4 = 3; node 2 4 = 5");
        sentence(", 4 branched", FIVE + "begin; step 1; node 0 4 = 4; giveUp; node 0 4 = 4");
        sentence(", 5 given up", FIVE + "begin; step 1; giveUp; node 1 4 = 5; node 2 4 = 5", "begin; giveUp; node 0 4 = 5");
    }

    private void nodeRefuses() {
        sentence("Returns the number",
            FIVE + "begin; step 1; node 1 0 = 0; node 1 1 = 1; node 1 2 = 0; node 1 3 = 158; node 1 4 = 0; node 1 5 = 1;"
                + "node 1 6 = 0; node 1 7 = 0b00010");
        sentence("; UNKNOWN", "node 0 0 = UNKNOWN; node 0 9 = UNKNOWN; begin; node 1 0 = UNKNOWN; node least 0 = UNKNOWN;"
            + "node most 0 = UNKNOWN; node 400 0 = UNKNOWN; node -1 9 = UNKNOWN; node 512 0 = UNKNOWN; node 256 0 = UNKNOWN;"
            + "node 4096 0 = UNKNOWN; node 65536 0 = UNKNOWN; undo; node 0 0 = UNKNOWN");
        sentence("; BAD_VALUE.",
            "begin; node 0 8 = BAD_VALUE; node 0 -1 = BAD_VALUE; node 0 least = BAD_VALUE; node 0 most = BAD_VALUE;"
                + "node 0 16 = BAD_VALUE; node 0 32 = BAD_VALUE; node 0 256 = BAD_VALUE; node 0 65536 = BAD_VALUE");
    }

    private void next() {
        section("19");
        sentence("Tells the node that the next step would take.",
            FIVE + "begin; next = 0; next = 0; count 11 = 0; step 1; next = 2; set 0 2; next = 1; set 0 1; next = 2;"
                + "step 1; next = 1; step 1; node 1 4 = 1",
            "put 17/5 18/4 12/2; setRoom 5; begin; step 1; next = 2; set 0 1; next = 1; set 0 2; next = 1");
        sentence("Returns the node",
            "begin; next = 0",
            ENDLESS + "begin; step 3; next = 6; set 0 1; next = 1; set 0 2; next = 1");
        sentence("; NONE if none is open.",
            "next = NONE; begin; step 1; next = NONE; begin; giveUp; next = NONE; undo; next = 0");
    }

    private void branchOf() {
        section("20");
        sentence("Tells the thing on which a node would be branched by a choice.",
            "put 10/5 8/10 10/10; setRoom 10; begin; branchOf 0 0 = 2; branchOf 0 1 = 1; branchOf 0 2 = 0; count 4 = 0;"
                + "count 6 = 1; set 1 1; branchOf 0 0 = 2; branchOf 0 2 = 0; set 1 2; branchOf 0 1 = 1; step 1;"
                + "node 1 1 = 0",
            FIVE + "begin; step 3; branchOf 0 0 = 1; branchOf 1 0 = 3; branchOf 2 0 = 4; branchOf 1 1 = 2;"
                + "branchOf 2 1 = 0");
        sentence("node: a node of the search that is possible",
            "put 5/5; branchOf 0 0 = UNKNOWN; begin; branchOf 0 0 = 0; branchOf 1 0 = UNKNOWN; giveUp; branchOf 0 0 = 0",
            "put 2x10/10; setRoom 15; begin; step 1; node 1 4 = 3; branchOf 1 0 = 0; branchOf 2 0 = NONE;"
                + "branchOf 3 0 = UNKNOWN");
        sentence("choice: 0 to 2",
            "put 5/5; begin; branchOf 0 0 = 0; branchOf 0 1 = 0; branchOf 0 2 = 0; branchOf 0 3 = BAD_VALUE");
        sentence("Returns the thing", "put 11x1/1 99/50; setRoom 60; begin; branchOf 0 1 = 11");
        sentence("; UNKNOWN (also of a node that is not possible)",
            "branchOf 0 0 = UNKNOWN; branchOf 0 3 = UNKNOWN; put 5/5; begin; branchOf 1 0 = UNKNOWN;"
                + "branchOf -1 0 = UNKNOWN; branchOf least 3 = UNKNOWN; branchOf most 0 = UNKNOWN;"
                + "branchOf 399 0 = UNKNOWN; undo; branchOf 0 0 = UNKNOWN",
            FIVE + "begin; step 200; setRoom 9; branchOf 0 0 = UNKNOWN");
        sentence("; BAD_VALUE", "begin; branchOf 0 -1 = BAD_VALUE; branchOf 0 3 = BAD_VALUE; branchOf 0 least = BAD_VALUE;"
            + "branchOf 0 most = BAD_VALUE; branchOf 0 4 = BAD_VALUE; branchOf 0 32 = BAD_VALUE; branchOf 0 256 = BAD_VALUE");
        sentence("; NONE if no thing is free.",
            "begin; branchOf 0 0 = NONE; branchOf 0 1 = NONE; branchOf 0 2 = NONE",
            "put 9/50; begin; branchOf 0 0 = NONE; branchOf 0 1 = NONE; branchOf 0 2 = NONE",
            "put 9/1; setRoom 0; begin; branchOf 0 1 = NONE",
            "put 10/5 9/5; bar 0 1 true; begin; step 1; node 2 6 = 0b10; branchOf 2 0 = NONE; branchOf 2 1 = NONE;"
                + "branchOf 2 2 = NONE; branchOf 1 0 = 0");
    }

    private void boundOf() {
        section("21");
        sentence("Tells the bound of a node that fixes things.",
            FIVE + "boundOf 0 0 = 159; boundOf 0 0b00010 = 158; boundOf 0b00010 0 = 159; boundOf 0b01000 0b00001 = 140;"
                + "count 6 = 0; begin; boundOf 0 0b00010 = 158; step 1; boundOf 0b00010 0 = 159; count 15 = 4");
        sentence("in: things that are in, as bits",
            "put 3x5/5 7/7; boundOf 0b1000 0b0111 = 7; boundOf 0b1001 0b0110 = 12; boundOf 0b0111 0b1000 = 15");
        sentence("out: things that are out, as bits",
            "put 3x5/5 7/7; boundOf 0 0b1000 = 15; boundOf 0 0b0001 = 17; boundOf 0 0b1111 = 0");
        sentence("Returns the bound",
            "boundOf 0 0 = 0; put 12x99/1; boundOf 0 0 = 1188; boundOf 0b111111111111 0 = 1188; setRoom 5;"
                + "boundOf 0 0 = 495; boundOf 0b11111 0 = 495");
        sentence("; BAD_VALUE if a bit is no thing",
            "boundOf 1 0 = BAD_VALUE; boundOf 0 1 = BAD_VALUE; put 2x5/5; boundOf 0b100 0 = BAD_VALUE;"
                + "boundOf 0 0b100 = BAD_VALUE; boundOf 0b101 0b010 = BAD_VALUE; boundOf -1 0 = BAD_VALUE;"
                + "boundOf 0 -1 = BAD_VALUE; boundOf least 0 = BAD_VALUE; boundOf 0 least = BAD_VALUE;"
                + "boundOf most 0 = BAD_VALUE; boundOf 0b11 0 = 10",
            "put 12x1/1; boundOf 0b111111111111 0 = 12; boundOf 0b1000000000000 0 = BAD_VALUE;"
                + "boundOf 0 0b1000000000000 = BAD_VALUE; boundOf 65536 0 = BAD_VALUE; boundOf 0 1073741824 = BAD_VALUE");
        sentence(", or a thing is in and out",
            "put 3x5/5; boundOf 1 1 = BAD_VALUE; boundOf 0b110 0b101 = BAD_VALUE; boundOf 0b111 0b100 = BAD_VALUE;"
                + "boundOf 0b110 0b001 = 10");
        sentence("; NOT_POSSIBLE if the node is not possible.",
            "put 10/10 20/20 1/1; boundOf 0b011 0 = 30; boundOf 0b111 0 = NOT_POSSIBLE; bar 0 2 true;"
                + "boundOf 0b101 0 = NOT_POSSIBLE; boundOf 0b101 0b010 = NOT_POSSIBLE; setRoom 0; boundOf 0 0 = 0;"
                + "boundOf 0b100 0 = NOT_POSSIBLE");
    }

    private void heelOf() {
        section("22");
        sentence("Tells the heel of such a node.",
            FIVE + "heelOf 0 0 = 0b10101; heelOf 0b00010 0 = 0b00011; heelOf 0 0b00101 = 0b10010; begin;"
                + "heelOf 0 0 = 0b10101; count 8 = 0");
        sentence("in: things that are in, as bits",
            "put 1/30 5/5; heelOf 0b01 0 = 0b01; heelOf 0b10 0 = 0b10; heelOf 0 0 = 0b10; setRoom 35; heelOf 0b01 0 = 0b11");
        sentence("out: things that are out, as bits",
            "put 3x5/5 7/7; heelOf 0 0b0010 = 0b1101; heelOf 0 0b1111 = 0; heelOf 0b1 0b110 = 0b1001");
        sentence("Returns the things of the heel, as bits",
            "heelOf 0 0 = 0; put 12x1/1; heelOf 0 0 = 0b111111111111; setRoom 3; heelOf 0 0 = 0b111;"
                + "heelOf 0b100000000000 0 = 0b100000000011; setRoom 0; heelOf 0 0 = 0");
        sentence("; BAD_VALUE and NOT_POSSIBLE as for boundOf().",
            "heelOf 1 0 = BAD_VALUE; heelOf 0 1 = BAD_VALUE; put 10/10 20/20 1/1; heelOf 0b1000 0 = BAD_VALUE;"
                + "heelOf 0 0b1000 = BAD_VALUE; heelOf 1 1 = BAD_VALUE; heelOf 0b111 0b100 = BAD_VALUE;"
                + "heelOf -1 0 = BAD_VALUE; heelOf 0 least = BAD_VALUE; heelOf 0b111 0 = NOT_POSSIBLE;"
                + "heelOf 0b011 0 = 0b011; bar 0 2 true; heelOf 0b101 0b010 = NOT_POSSIBLE; heelOf 0b1101 0 = BAD_VALUE");
    }

    private void bestSum() {
        section("23");
        sentence("Finds the best sum of all by trying all choices (the second way).",
            FIVE + "bestSum = 159; bar 0 1 true; bestSum = 157; bar 0 2 true; bestSum = 140; setRoom 200; bestSum = 246;"
                + "bar 1 2 true; bestSum = 156; begin; bestSum = 156; count 8 = 0; step 200; count 8 = 156",
            "put 60/10 50/9 50/9 50/9; setRoom 27; bestSum = 150; bar 1 2 true; bestSum = 110; bar 1 3 true;"
                + "bar 2 3 true; bestSum = 110; bar 0 1 true; bar 0 2 true; bestSum = 110; bar 0 3 true; bestSum = 60",
            ENDLESS + "bestSum = 10");
        sentence("Returns the sum.",
            FIVE + "begin; step 1; count 8 = 157; bestSum = 159; giveUp; bestSum = 159",
            "bestSum = 0; put 5/30; bestSum = 5; setRoom 29; bestSum = 0; put 11x99/1; bestSum = 1089; setRoom 0;"
                + "bestSum = 0; count 15 = 4");
    }

    private void counts() {
        section("24");
        sentence("what: 0 for things", "count 0 = 0; put 12x1/1; count 0 = 12; remove 0; count 0 = 11");
        sentence(", 1 for the room", "count 1 = 30; setRoom 0; count 1 = 0; setRoom 200; count 1 = 200");
        sentence(", 2 for pairs that bar each other",
            "count 2 = 0; put 3x1/1; bar 0 1 true; count 2 = 1; bar 1 2 true; bar 0 2 true; count 2 = 3; remove 1;"
                + "count 2 = 1");
        sentence(", 3 for the order", "count 3 = 0; set 0 2; count 3 = 2; set 1 1; count 3 = 2; set 0 1; count 3 = 1");
        sentence(", 4 for the choice", "count 4 = 0; set 1 2; count 4 = 2; set 0 1; count 4 = 2; set 1 1; count 4 = 1");
        sentence(", 5 for whether a search goes on (1, otherwise 0)",
            "count 5 = 0; begin; count 5 = 1; step 1; count 5 = 0; begin; count 5 = 1; giveUp; count 5 = 0; undo;"
                + "count 5 = 1; undo; count 5 = 0");
        sentence(", 15 for the states in the history",
            "count 15 = 0; put 3x1/1; count 15 = 3; put 2x1/1; count 15 = 4; undo; count 15 = 3");
        sentence(", 16 for the length of the text",
            "count 16 = 0; type 49; count 16 = 1; 80 * type 49; count 16 = 80; clearText; count 16 = 0");
        sentence("Returns the number; BAD_VALUE.",
            "count 0 = 0; count 16 = 0; count 17 = BAD_VALUE; count -1 = BAD_VALUE; count least = BAD_VALUE;"
                + "count most = BAD_VALUE; begin; count 17 = BAD_VALUE; count 32 = BAD_VALUE; count 37 = BAD_VALUE;"
                + "count 64 = BAD_VALUE; count 256 = BAD_VALUE; count 261 = BAD_VALUE; count 65536 = BAD_VALUE;"
                + "count -16 = BAD_VALUE");
    }

    private void countsOfSearch() {
        sentence(", 8 for the best sum so far (NONE without a search)",
            FIVE + "count 8 = NONE; begin; count 8 = 0; step 1; count 8 = 157; step 1; count 8 = 159; giveUp;"
                + "count 8 = 159; setRoom 1; count 8 = NONE");
        sentence(", 9 for the best choice, as bits (NONE likewise)",
            FIVE + "count 9 = NONE; begin; count 9 = 0; step 1; count 9 = 0b10101; step 1; count 9 = 0b00011; giveUp;"
                + "count 9 = 0b00011; remove 0; count 9 = NONE");
        sentence(", 10 for the gap (NONE likewise)",
            FIVE + "count 10 = NONE; begin; count 10 = 159; step 1; count 10 = 2; step 1; count 10 = 0; step 1;"
                + "count 10 = 0; add 1 1; count 10 = NONE; begin; giveUp; count 10 = 0; bar 0 1 true; count 10 = NONE");
        sentence(", 11 for steps of the search so far (0 without one)",
            FIVE + "count 11 = 0; begin; count 11 = 0; step 1; count 11 = 1; dive; count 11 = 2; step 200; count 11 = 3;"
                + "begin; count 11 = 0; undo; count 11 = 3; setRoom 1; count 11 = 0");
    }

    private void countsOfNodes() {
        sentence(", 6 for nodes made",
            FIVE + "count 6 = 0; begin; count 6 = 1; step 1; count 6 = 3; step 200; count 6 = 3; add 1 1; count 6 = 0",
            "put 2x10/10; setRoom 15; begin; step 1; count 6 = 3",
            WIDE + "begin; step 199; count 6 = 399; giveUp; count 6 = 399");
        sentence(", 7 for open nodes",
            FIVE + "count 7 = 0; begin; count 7 = 1; step 1; count 7 = 2; step 1; count 7 = 1; step 1; count 7 = 0",
            FIVE + "begin; step 1; giveUp; count 7 = 0");
        sentence(", 12 for nodes that were cut off as they were taken",
            FIVE + "count 12 = 0; begin; step 2; count 12 = 0; step 1; count 12 = 1; begin; count 12 = 0",
            "begin; step 1; count 12 = 1; setRoom 9; count 12 = 0");
        sentence(", 13 for closed ones",
            FIVE + "count 13 = 0; begin; step 1; count 13 = 0; step 1; count 13 = 1; step 1; count 13 = 1; begin;"
                + "count 13 = 0",
            "put 5/5; begin; step 1; count 13 = 1; add 1 1; count 13 = 0");
        sentence(", 14 for those cut off at once",
            "put 2x10/10; setRoom 15; count 14 = 0; begin; count 14 = 0; step 1; count 14 = 2; begin; count 14 = 0",
            "put 17/1 9/8 8/5; setRoom 12; begin; step 1; count 14 = 1; giveUp; count 14 = 1; setRoom 9; count 14 = 0");
    }
}
