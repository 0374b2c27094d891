/** SEARCH: the thing on which a node is branched, asked by branchOf() and seen in the children. */
final class ChoiceSentences extends Sentences {
    ChoiceSentences(Book book) {
        super(book);
    }

    @Override
    void all() {
        section("SEARCH");
        sentence("The thing on which a node is branched, by the choice (a setting):",
            "put 10/5 8/10 10/10; setRoom 10; count 4 = 0; begin; branchOf 0 0 = 2; branchOf 0 1 = 1; branchOf 0 2 = 0; step 1;"
                + "node 1 1 = 2",
            "put 10/5 8/10 10/10; setRoom 10; set 1 1; begin; step 1; node 1 1 = 1; node 2 1 = 1",
            "put 10/5 8/10 10/10; setRoom 10; set 1 2; begin; step 1; node 1 1 = 0; node 2 1 = 0",
            WIDE + "begin; step 1; node 1 1 = 0; set 1 0; step 1; node 3 1 = 6; set 1 1; step 1; node 5 1 = 1");
        firstThatDoesNotFit();
        firstThatTheHeelLeavesOut();
        heaviest();
        trials();
    }

    private void firstThatDoesNotFit() {
        sentence("0 the first free one in the order of the bound that does not fit whole",
            FIVE + "begin; branchOf 0 0 = 1; step 1; node 1 1 = 1; branchOf 1 0 = 3; branchOf 2 0 = 4",
            "put 20/10 30/10 40/10 50/10; setRoom 20; begin = 90; branchOf 0 0 = 1; giveUp; setRoom 19; begin;"
                + "branchOf 0 0 = 2; giveUp; setRoom 39; begin; branchOf 0 0 = 0; giveUp; setRoom 10; begin;"
                + "branchOf 0 0 = 2",
            "put 50/5 99/50 1/1; setRoom 54; begin; branchOf 0 0 = 1; giveUp; setRoom 55; begin; branchOf 0 0 = 2",
            "put 9/1 8/2 7/3 6/4; bar 0 1 true; setRoom 9; begin = 28; heelOf 0 0 = 0b1101; branchOf 0 0 = 3; step 1;"
                + "node 1 1 = 3",
            ENDLESS + "begin; branchOf 0 0 = 5; step 1; branchOf 1 0 = 6; branchOf 2 0 = 4");
    }

    private void firstThatTheHeelLeavesOut() {
        sentence("(if all fit whole: the first free one in that order that the heel leaves out",
            "put 6/4 7/3 8/2 9/1; bar 3 1 true; bar 2 0 true; begin = 30; heelOf 0 0 = 0b1100; branchOf 0 0 = 1; step 1;"
                + "node 1 1 = 1",
            "put 9/1 8/2 7/3 6/4; bar 0 3 true; begin; branchOf 0 0 = 3; giveUp; setRoom 10; begin; branchOf 0 0 = 3; giveUp;"
                + "setRoom 9; begin; branchOf 0 0 = 3; giveUp; bar 0 3 false; setRoom 10; begin; branchOf 0 0 = 0",
            "put 9/1 8/2 7/3 6/4; bar 0 2 true; setRoom 9; begin = 28; branchOf 0 0 = 3; giveUp; setRoom 10; begin = 30;"
                + "branchOf 0 0 = 2");
        sentence(", and if it leaves out none, the first free one in that order)",
            "put 1/9 2/8 3/3; begin = 6; branchOf 0 0 = 2; step 1; node 0 4 = 2; branchOf 0 0 = 2",
            "put 9/9; begin; branchOf 0 0 = 0",
            "put 3/9 10/10 9/10; setRoom 19; begin; step 1; node 2 6 = 0b100; branchOf 2 0 = 0; branchOf 1 0 = 1",
            "begin; branchOf 0 0 = NONE");
    }

    private void heaviest() {
        sentence("; 1 the free one with the greatest weight",
            "put 9/5 9/7 1/8 9/6; begin; branchOf 0 1 = 2; giveUp; setRoom 7; begin; branchOf 0 1 = 1",
            "put 99/50 1/29 99/31 5/5; begin; branchOf 0 1 = 1",
            FIVE + "set 1 1; begin; step 1; node 1 1 = 1; branchOf 1 1 = 2; branchOf 2 1 = 0");
        sentence(", of several the lowest;",
            "put 1/3 1/7 9/7 5/7; begin; branchOf 0 1 = 1; giveUp; remove 1; begin; branchOf 0 1 = 1",
            WIDE + "begin; branchOf 0 1 = 0; step 1; node 1 1 = 0; branchOf 1 1 = 1; branchOf 2 1 = 1");
    }

    /** By 10/5 8/10 10/10 in a room of 10 the children's bounds are 10 and 10 by the thing 0, 15 and 8 by 1, 14 and 10 by 2. */
    private void trials() {
        sentence("2 by strong trials: of all free ones the one for which the greater one of the bounds of both children is the"
            + " least",
            "put 10/5 8/10 10/10; setRoom 10; boundOf 0 0b001 = 10; boundOf 0b001 0 = 10; boundOf 0 0b010 = 15;"
                + "boundOf 0b010 0 = 8; boundOf 0 0b100 = 14; boundOf 0b100 0 = 10; begin; branchOf 0 2 = 0",
            FIVE + "boundOf 0 0b00001 = 149; boundOf 0b00001 0 = 159; boundOf 0 0b00010 = 158; boundOf 0b00010 0 = 159;"
                + "begin; branchOf 0 2 = 0",
            "put 4/6 9/6 6/5 7/3; setRoom 9; begin = 16; branchOf 0 2 = 0");
        sentence("(a child that is not possible counts as 0)",
            "put 9/5 50/31 9/25; bar 0 1 true; begin = 18; boundOf 0b010 0 = NOT_POSSIBLE; branchOf 0 2 = 0; giveUp;"
                + "setRoom 29; begin; boundOf 0b101 0 = NOT_POSSIBLE; branchOf 0 2 = 0");
        sentence(", of several the one for which the lesser one is the least",
            "put 3x9/10 4/10; setRoom 10; boundOf 0 0b0001 = 9; boundOf 0b0001 0 = 9; boundOf 0 0b1000 = 9;"
                + "boundOf 0b1000 0 = 4; begin; branchOf 0 2 = 3; set 1 2; heelOf 0 0 = 0b0001");
        sentence(", then the lowest.",
            "put 2x9/10; setRoom 10; begin; branchOf 0 2 = 0",
            "put 4/10 3x9/10 4/10; setRoom 10; boundOf 0 0b00001 = 9; boundOf 0b00001 0 = 4; begin; branchOf 0 2 = 0;"
                + "giveUp; remove 0; begin; branchOf 0 2 = 3",
            "put 5/1 5/2 5/3; begin; branchOf 0 2 = 0");
    }
}
