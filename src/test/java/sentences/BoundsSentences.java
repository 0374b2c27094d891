/** BOUNDS: what is possible, free, the bound and the heel. */
final class BoundsSentences extends Sentences {
    BoundsSentences(Book book) {
        super(book);
    }

    @Override
    void all() {
        section("BOUNDS");
        possible();
        countsAsOut();
        orderOfTheBound();
        bound();
        heel();
    }

    private void possible() {
        sentence("A node fixes some things in and some out; the others are free.",
            "put 10/5 9/5 8/5; boundOf 0 0 = 27; boundOf 0b001 0b110 = 10; boundOf 0b010 0b001 = 17; boundOf 0 0b111 = 0;"
                + "heelOf 0b010 0b001 = 0b110; heelOf 0b100 0b011 = 0b100; boundOf 0b111 0 = 27; heelOf 0 0b111 = 0",
            FIVE + "begin; step 1; node 1 6 = 0; node 1 7 = 0b00010; node 2 6 = 0b00010; node 2 7 = 0");
        sentence("A node is not possible if those that are in do not fit",
            "put 10/10 20/20 1/1; boundOf 0b011 0 = 30; heelOf 0b011 0 = 0b011; boundOf 0b111 0 = NOT_POSSIBLE;"
                + "heelOf 0b111 0 = NOT_POSSIBLE; setRoom 31; boundOf 0b111 0 = 31; heelOf 0b111 0 = 0b111;"
                + "setRoom 29; boundOf 0b011 0 = NOT_POSSIBLE; heelOf 0b011 0 = NOT_POSSIBLE",
            "put 9/50; setRoom 49; boundOf 1 0 = NOT_POSSIBLE; setRoom 50; boundOf 1 0 = 9; heelOf 1 0 = 1",
            "put 9/1; setRoom 0; boundOf 0 0 = 0; heelOf 0 0 = 0; boundOf 1 0 = NOT_POSSIBLE");
        sentence(", or bar each other.",
            "put 10/5 9/5 8/5; boundOf 0b101 0b010 = 18; bar 0 2 true; boundOf 0b101 0b010 = NOT_POSSIBLE;"
                + "heelOf 0b101 0b010 = NOT_POSSIBLE; boundOf 0b111 0 = NOT_POSSIBLE; boundOf 0b011 0 = 19;"
                + "boundOf 0b110 0 = 17; bar 2 0 false; boundOf 0b111 0 = 27",
            "put 12x5/1; bar 10 11 true; boundOf 0b110000000000 0 = NOT_POSSIBLE; boundOf 0b100000000000 0 = 55;"
                + "boundOf 0b011111111111 0 = 55");
    }

    /** The child that has the thing 0 in is asked for the thing on which it would be branched. */
    private void countsAsOut() {
        sentence("A free thing that is barred by one that is in",
            "put 10/5 9/5 8/5; bar 0 1 true; setRoom 15; boundOf 0b001 0 = 18; heelOf 0b001 0 = 0b101; boundOf 0b010 0 = 17;"
                + "heelOf 0b010 0 = 0b110; boundOf 0b100 0 = 27; set 1 1; begin = 27; step 1 = 1; node 2 6 = 0b001;"
                + "branchOf 2 0 = 2; branchOf 2 1 = 2; branchOf 2 2 = 2",
            "put 10/5 99/5; bar 0 1 true; boundOf 0b01 0 = 10; heelOf 0b01 0 = 0b01");
        sentence(", or that does not fit beside those that are in, counts as out for all that follows.",
            "put 10/10 40/20 3/15; boundOf 0b001 0 = 50; heelOf 0b001 0 = 0b011; setRoom 29; boundOf 0b001 0 = 13;"
                + "heelOf 0b001 0 = 0b101; setRoom 25; boundOf 0b001 0 = 13; setRoom 24; boundOf 0b001 0 = 10",
            "put 99/31 1/30; boundOf 0 0 = 1; heelOf 0 0 = 0b10; begin = 1; branchOf 0 0 = 1; branchOf 0 1 = 1;"
                + "branchOf 0 2 = 1; giveUp; setRoom 31; boundOf 0 0 = 99",
            "put 5/5 7/7; setRoom 7; begin = 7; step 1 = 1; node 2 6 = 0b10; branchOf 2 0 = NONE; branchOf 2 1 = NONE;"
                + "branchOf 2 2 = NONE");
    }

    private void orderOfTheBound() {
        sentence("and then, of the free ones, taken in the order of worth divided by weight, the greatest first",
            "put 10/10 20/10 30/10; thing 0 2 = 2; thing 1 2 = 1; thing 2 2 = 0; setRoom 10; boundOf 0 0 = 30; setRoom 20;"
                + "boundOf 0 0 = 50; boundOf 0b001 0 = 40; boundOf 0 0b100 = 30; heelOf 0 0 = 0b110; setRoom 15;"
                + "boundOf 0 0 = 40",
            "put 99/50 10/1 50/10; thing 0 2 = 2; thing 1 2 = 0; thing 2 2 = 1",
            "put 10/10 20/10; remove 0 = 1; thing 0 2 = 0; add 30 10 = 1; thing 0 2 = 1; thing 1 2 = 0; add 1 50 = 2;"
                + "thing 2 2 = 2");
        sentence("(compared as fractions",
            "put 50/49 49/48; thing 0 2 = 1; thing 1 2 = 0",
            "put 49/48 50/49; thing 0 2 = 0; thing 1 2 = 1",
            "put 97/49 99/50; thing 0 2 = 1; thing 1 2 = 0",
            "put 1/50 1/49; thing 0 2 = 1; thing 1 2 = 0",
            "put 7/4 5/3 9/5; thing 0 2 = 1; thing 1 2 = 2; thing 2 2 = 0; setRoom 5; heelOf 0 0 = 0b100");
        sentence("; of several the lowest number first)",
            "put 1/2 3/6 2/4 25/50; thing 0 2 = 0; thing 1 2 = 1; thing 2 2 = 2; thing 3 2 = 3",
            "put 2/4 1/2 5/5 3/6; thing 0 2 = 1; thing 1 2 = 2; thing 2 2 = 0; thing 3 2 = 3; setRoom 6; heelOf 0 0 = 0b0100",
            "put 3/3 1/1 2/2; setRoom 3; heelOf 0 0 = 0b001; heelOf 0 0b001 = 0b110; remove 0 = 2; add 3 3 = 2;"
                + "heelOf 0 0 = 0b011; thing 2 2 = 2",
            "put 12x6/3; thing 0 2 = 0; thing 5 2 = 5; thing 11 2 = 11");
    }

    private void bound() {
        sentence("The bound of a node is the worth of those that are in,",
            "put 5/5 7/7 9/9; boundOf 0b101 0b010 = 14; boundOf 0b111 0 = 21; boundOf 0 0b111 = 0; boundOf 0b010 0b101 = 7");
        sentence(", as many as fit whole one behind the other;",
            "put 20/10 15/10 10/10; setRoom 20; boundOf 0 0 = 35; setRoom 21; boundOf 0 0 = 36; setRoom 19; boundOf 0 0 = 33;"
                + "setRoom 30 = 19; boundOf 0 0 = 45; setRoom 31; boundOf 0 0 = 45; setRoom 29; boundOf 0 0 = 44;"
                + "setRoom 10; boundOf 0 0 = 20; setRoom 9; boundOf 0 0 = 0");
        sentence("; and of the first one that does not fit whole, its worth times the room that is left, divided by its weight",
            "put 50/5 99/50; setRoom 50; boundOf 0 0 = 139; setRoom 54; boundOf 0 0 = 147; setRoom 55; boundOf 0 0 = 149;"
                + "setRoom 56; boundOf 0 0 = 149",
            "put 40/10 60/20; setRoom 25; boundOf 0 0 = 85; setRoom 20; boundOf 0 0 = 70; setRoom 10; boundOf 0 0 = 40",
            "put 30/10 8/4 60/30; boundOf 0 0 = 70; boundOf 0b001 0 = 38; boundOf 0 0b010 = 70; boundOf 0 0b001 = 60");
        sentence(", rounded down;",
            "put 10/1 2/3; setRoom 3; boundOf 0 0 = 11; setRoom 4; boundOf 0 0 = 12",
            "put 10/1 1/9; setRoom 9; boundOf 0 0 = 10; setRoom 10; boundOf 0 0 = 11",
            "put 98/49 97/50; setRoom 98; boundOf 0 0 = 193; setRoom 99; boundOf 0 0 = 195; setRoom 50; boundOf 0 0 = 99");
        sentence("none behind that are looked at.",
            "put 50/5 99/50 1/1; setRoom 54; boundOf 0 0 = 147; heelOf 0 0 = 0b101; setRoom 55; boundOf 0 0 = 149;"
                + "setRoom 56; boundOf 0 0 = 150",
            "put 50/5 60/10 4/1 3/1; setRoom 14; boundOf 0 0 = 104; boundOf 0 0b0010 = 57");
        sentence("(Bars between free things do not matter for it.)",
            "put 10/5 9/5; setRoom 10; boundOf 0 0 = 19; bar 0 1 true; boundOf 0 0 = 19; heelOf 0 0 = 0b01;"
                + "boundOf 0b01 0 = 10",
            "put 12/4 10/5 9/5; bar 1 2 true; setRoom 14; boundOf 0 0 = 31; boundOf 0b001 0 = 31; boundOf 0b010 0 = 22;"
                + "setRoom 11; boundOf 0 0 = 25");
    }

    private void heel() {
        sentence("The heel of a node: the things that are in,",
            "put 1/10 9/5 8/5; setRoom 10; heelOf 0b001 0 = 0b001; heelOf 0 0 = 0b110; heelOf 0b100 0b010 = 0b100;"
                + "heelOf 0b110 0b001 = 0b110; heelOf 0 0b111 = 0; heelOf 0b010 0b101 = 0b010");
        sentence("and then, of the free ones in the same order, each one that still fits",
            "put 50/5 99/50 1/1; setRoom 54; heelOf 0 0 = 0b101; setRoom 55; heelOf 0 0 = 0b011; setRoom 56;"
                + "heelOf 0 0 = 0b111; setRoom 5; heelOf 0 0 = 0b001; setRoom 4; heelOf 0 0 = 0b100; setRoom 54;"
                + "heelOf 0b010 0 = 0b110; heelOf 0 0b001 = 0b110; heelOf 0 0b101 = 0b010",
            FIVE + "heelOf 0 0 = 0b10101; heelOf 0 0b00100 = 0b00011; heelOf 0b01000 0 = 0b11001; heelOf 0b00010 0 = 0b00011");
        sentence("and is barred by none taken so far.",
            "put 30/10 20/10 10/10; bar 0 1 true; bar 1 2 true; heelOf 0 0 = 0b101; heelOf 0 0b001 = 0b010;"
                + "heelOf 0b010 0 = 0b010; heelOf 0b100 0 = 0b101; heelOf 0 0b100 = 0b001",
            "put 30/10 20/10 10/10; bar 0 2 true; setRoom 20; heelOf 0 0 = 0b011; heelOf 0b100 0 = 0b110;"
                + "heelOf 0 0b010 = 0b001; heelOf 0 0b001 = 0b110");
        sentence("It is a choice; its sum is at most the bound.", this::heelIsAChoice);
    }

    /** Five things that are in, out or free each, in some rooms, with three bars. */
    private void heelIsAChoice() {
        int[][] things = {{60, 10}, {99, 20}, {90, 18}, {50, 12}, {7, 2}};
        int[] bars = {0b00010, 0b01001, 0b10000, 0b00010, 0b00100};
        for (int room = 0; room <= 62; room += 31) {
            Run run = run(FIVE + "bar 0 1 true; bar 1 3 true; bar 2 4 true; setRoom " + room);
            for (int fixed = 0; fixed < 243; fixed++) {
                int in = 0;
                int out = 0;
                for (int thing = 0, rest = fixed; thing < 5; thing++, rest /= 3) {
                    if (rest % 3 == 1) in |= 1 << thing;
                    if (rest % 3 == 2) out |= 1 << thing;
                }
                int heel = run.ask("heelOf " + in + " " + out);
                int bound = run.ask("boundOf " + in + " " + out);
                int worth = 0;
                int weight = 0;
                int barred = 0;
                for (int thing = 0; thing < 5; thing++) {
                    if (heel >= 0 && (heel >> thing & 1) == 1) {
                        worth += things[thing][0];
                        weight += things[thing][1];
                        barred |= bars[thing];
                    }
                }
                boolean none = heel == BranchedSums.NOT_POSSIBLE && bound == BranchedSums.NOT_POSSIBLE;
                boolean holds = heel >= 0 && weight <= room && (heel & barred) == 0 && worth <= bound
                    && (heel & in) == in && (heel & out) == 0;
                book.isTrue("room " + room + ", in " + in + ", out " + out, none || holds);
            }
        }
    }
}
