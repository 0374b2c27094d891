/** THINGS, and how long an object is used. */
final class ThingsSentences extends Sentences {
    ThingsSentences(Book book) {
        super(book);
    }

    @Override
    void all() {
        section("HEAD");
        sentence("An object is used for at most 512 calls after it has been made", () -> {
            Run run = run("");
            for (int round = 0; round < 255; round++) run.does("add 5 5 = 0; undo = 0");
            run.does("add 7 7 = 0; thing 0 0 = 7");
        });
        section("THINGS");
        number();
        ranges();
        bars();
        choices();
    }

    private void number() {
        sentence("There are at most 12 things,", () -> {
            run("11 * add 1 1; add 1 1 = 11; count 0 = 12; thing 11 0 = 1; thing 12 0 = UNKNOWN");
            run("put 12x1/1; add 1 1 = FULL; count 0 = 12; remove 4 = 11; add 2 2 = 11; add 1 1 = FULL");
            run("put 11x1/1").text("5/5").does("addAll = 12; addAll = FULL; count 0 = 12; thing 11 0 = 5");
        });
        sentence("numbered from 0 in the order in which they came", () -> {
            run("add 11 1 = 0; add 33 3 = 1; add 22 2 = 2; thing -1 0 = UNKNOWN; thing 0 0 = 11; thing 1 0 = 33;"
                + "thing 2 0 = 22; thing 3 0 = UNKNOWN");
            run("put 11/1").text("22/2;33/3").does("addAll = 3; thing 0 0 = 11; thing 1 0 = 22; thing 2 0 = 33");
        });
        sentence("(if one is removed, those behind it get numbers that are 1 less)",
            "put 11/1 22/2 33/3 44/4; bar 0 3 true = 1; bar 2 3 true = 2; remove 1 = 3; thing 0 0 = 11; thing 1 0 = 33;"
                + "thing 1 1 = 3; thing 2 0 = 44; thing 2 1 = 4; thing 3 0 = UNKNOWN; thing 0 3 = 0b100;"
                + "thing 1 3 = 0b100; thing 2 3 = 0b011",
            "put 11/1 22/2 33/3; bar 1 2 true = 1; remove 0 = 2; thing 0 0 = 22; thing 1 0 = 33; thing 2 0 = UNKNOWN;"
                + "thing 0 3 = 0b10; thing 1 3 = 0b01",
            "put 11/1 22/2 33/3; bar 0 1 true = 1; remove 2 = 2; thing 0 0 = 11; thing 1 0 = 22; thing 0 3 = 0b10;"
                + "thing 1 3 = 0b01; thing 2 0 = UNKNOWN",
            "put 11x1/1 77/7; bar 0 11 true; bar 10 11 true; remove 5 = 11; thing 10 0 = 77; thing 9 0 = 1;"
                + "thing 10 3 = 0b01000000001; thing 0 3 = 0b10000000000; thing 9 3 = 0b10000000000; thing 5 3 = 0;"
                + "thing 11 0 = UNKNOWN");
    }

    private void ranges() {
        sentence("each with a worth (1 to 99)",
            "add 0 5 = BAD_VALUE; add 1 5 = 0; add 99 5 = 1; add 100 5 = BAD_VALUE; add -1 5 = BAD_VALUE;"
                + "add least 5 = BAD_VALUE; add most 5 = BAD_VALUE; count 0 = 2; thing 0 0 = 1; thing 1 0 = 99");
        sentence("and a weight (1 to 50)",
            "add 5 0 = BAD_VALUE; add 5 1 = 0; add 5 50 = 1; add 5 51 = BAD_VALUE; add 5 -1 = BAD_VALUE;"
                + "add 5 least = BAD_VALUE; add 5 most = BAD_VALUE; count 0 = 2; thing 0 1 = 1; thing 1 1 = 50");
        sentence("The room is 0 to 200",
            "setRoom -1 = BAD_VALUE; setRoom 0 = 30; count 1 = 0; setRoom 200 = 0; count 1 = 200;"
                + "setRoom 201 = BAD_VALUE; setRoom least = BAD_VALUE; setRoom most = BAD_VALUE; count 1 = 200",
            "put 4x10/50 10/1; setRoom 200; bestSum = 40; boundOf 0b01111 0 = 40; boundOf 0b11111 0 = NOT_POSSIBLE",
            "put 10/1; setRoom 0; bestSum = 0; boundOf 0 0 = 0; boundOf 1 0 = NOT_POSSIBLE; heelOf 0 0 = 0");
        sentence("(30 at first)",
            "count 1 = 30; setRoom 30 = NONE; put 3x10/15; bestSum = 20; begin = 20; step 9 = 1; count 8 = 20");
    }

    private void bars() {
        sentence("Pairs of things can bar each other", () -> {
            run("put 5/5 6/6 7/7; count 2 = 0; bar 2 0 true = 1; thing 0 3 = 0b100; thing 1 3 = 0; thing 2 3 = 0b001;"
                + "bar 1 2 true = 2; thing 2 3 = 0b011; thing 1 3 = 0b100; count 2 = 2");
            Run run = run("put 12x5/5");
            int pairs = 0;
            for (int one = 0; one < 12; one++) {
                for (int other = 0; other < one; other++) run.is("bar " + one + " " + other + " true", ++pairs);
            }
            run.does("count 2 = 66; thing 0 3 = 0b111111111110; thing 11 3 = 0b011111111111; bestSum = 5");
        });
        sentence(": both are not taken together.",
            "put 10/5 9/5; bestSum = 19; bar 0 1 true = 1; bestSum = 10; boundOf 0b11 0 = NOT_POSSIBLE;"
                + "heelOf 0b11 0 = NOT_POSSIBLE; heelOf 0 0 = 0b01; begin = 19; step 200 = 1; count 8 = 10; count 9 = 0b01",
            "put 10/5 9/5 9/5; bar 0 1 true; bar 0 2 true; bestSum = 18; begin; step 200; count 8 = 18; count 9 = 0b110");
    }

    private void choices() {
        sentence("A choice is a set of things that fit into the room",
            "put 10/10 20/20; bestSum = 30; boundOf 0b11 0 = 30; setRoom 29; bestSum = 20; heelOf 0 0 = 0b01;"
                + "boundOf 0b11 0 = NOT_POSSIBLE; begin = 29; step 200; count 8 = 20; count 9 = 0b10",
            "put 10/10 20/20; begin = 30; step 200 = 1; count 8 = 30; count 9 = 0b11",
            "put 5/1; setRoom 0; bestSum = 0; begin = 0; step 1 = 1; count 8 = 0; count 9 = 0");
        sentence("none of which bar each other",
            "put 10/5 9/5 8/5; bar 0 1 true; bar 1 2 true; bestSum = 18; heelOf 0 0 = 0b101; bar 0 2 true; bestSum = 10;"
                + "heelOf 0 0 = 0b001; begin = 27; step 200 = 2; count 8 = 10; count 9 = 0b001");
        sentence("; its sum is that of their worths.",
            FIVE + "begin; step 200; count 8 = 159; count 9 = 0b00011; thing 0 0 = 60; thing 1 0 = 99",
            "put 12x99/1; begin = 1188; step 1 = 1; count 8 = 1188; count 9 = 0b111111111111; bestSum = 1188",
            "begin = 0; step 1 = 1; count 8 = 0; count 9 = 0; bestSum = 0");
    }
}
