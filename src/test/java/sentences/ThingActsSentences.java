/** Promises 1 to 6: a new object and the acts that change things, bars and the room. */
final class ThingActsSentences extends Sentences {
    ThingActsSentences(Book book) {
        super(book);
    }

    @Override
    void all() {
        newObject();
        add();
        addAll();
        addAllRefuses();
        remove();
        bar();
        setRoom();
    }

    private void newObject() {
        section("1");
        sentence("Creates an empty knapsack without things.",
            "count 0 = 0; count 1 = 30; count 2 = 0; count 3 = 0; count 4 = 0; count 5 = 0; count 6 = 0; count 7 = 0;"
                + "count 8 = NONE; count 9 = NONE; count 10 = NONE; count 11 = 0; count 12 = 0; count 13 = 0;"
                + "count 14 = 0; count 15 = 0; count 16 = 0; thing 0 0 = UNKNOWN; node 0 0 = UNKNOWN; next = NONE;"
                + "boundOf 0 0 = 0; heelOf 0 0 = 0; boundOf 1 0 = BAD_VALUE; bestSum = 0; undo = NONE; restore = NONE;"
                + "giveUp = NONE; addAll = -100",
            FIVE + "begin; step 1; keep",
            "count 0 = 0; count 6 = 0; restore = NONE; add 7 7 = 0; count 15 = 1");
    }

    private void add() {
        section("2");
        sentence("Adds a thing.",
            "add 7 9 = 0; count 0 = 1; thing 0 0 = 7; thing 0 1 = 9; thing 0 2 = 0; thing 0 3 = 0; thing 0 4 = 0; add 9 7 = 1;"
                + "thing 1 0 = 9; thing 1 1 = 7; thing 1 2 = 0; thing 0 2 = 1; count 2 = 0; bestSum = 16");
        sentence("This is an act.",
            "setRoom 9; add 7 9 = 0; count 15 = 2; undo = 1; count 0 = 0; count 1 = 9; thing 0 0 = UNKNOWN");
        sentence("worth: 1 to 99", "add 1 7 = 0; add 99 7 = 1; add 2 7 = 2; add 98 7 = 3; thing 1 0 = 99; thing 0 0 = 1");
        sentence("weight: 1 to 50", "add 7 1 = 0; add 7 50 = 1; add 7 2 = 2; add 7 49 = 3; thing 1 1 = 50; thing 0 1 = 1");
        sentence("Returns its number",
            "add 1 1 = 0; add 1 1 = 1; remove 0 = 1; add 1 1 = 1; undo; undo; add 1 1 = 2; add 1 1 = 3");
        sentence("BAD_VALUE",
            "add 0 1 = BAD_VALUE; add 100 1 = BAD_VALUE; add 1 0 = BAD_VALUE; add 1 51 = BAD_VALUE; add -5 -5 = BAD_VALUE;"
                + "add least least = BAD_VALUE; add most most = BAD_VALUE; add 257 1 = BAD_VALUE; add 1 65537 = BAD_VALUE;"
                + "count 0 = 0; count 15 = 0");
        sentence("NOT_POSSIBLE if a search goes on",
            "begin; add 1 1 = NOT_POSSIBLE; count 0 = 0; step 1; add 1 1 = 0",
            FIVE + "begin; add 1 1 = NOT_POSSIBLE; step 1; add 1 1 = NOT_POSSIBLE; giveUp; add 1 1 = 5");
        sentence("FULL if there are 12.", "put 11x1/1; add 1 1 = 11; add 1 1 = FULL; count 0 = 12; undo = 3; add 2 2 = 11");
    }

    private void addAll() {
        section("3");
        sentence("Adds the things of the text", () -> {
            run("").text("11/1;22/2;33/3").does("addAll = 3; thing 0 0 = 11; thing 0 1 = 1; thing 1 0 = 22; thing 1 1 = 2;"
                + "thing 2 0 = 33; thing 2 1 = 3; thing 2 2 = 2; bestSum = 66");
            run("put 99/1").text("11/1").does("addAll = 2; thing 0 0 = 99; thing 1 0 = 11; thing 1 2 = 1");
            run("").text("5/5").does("addAll = 1").text("6/6;7/7").does("addAll = 3; thing 1 0 = 6; thing 2 0 = 7");
        });
        sentence(", which stays,", () -> {
            run("").text("11/1;22/2").does("addAll = 2; count 16 = 9; addAll = 4; thing 2 0 = 11; thing 3 0 = 22; clearText = 9");
        });
        sentence(", with their bars", () -> {
            run("").text("5/5;6/6!0").does("addAll = 2").text("7/7;8/8").does("addAll = 4; count 2 = 1; thing 3 3 = 0");
            run("").text("5/5;6/6!0;7/7;8/8!0!2").does("addAll = 4; count 2 = 3; thing 0 3 = 0b1010; thing 1 3 = 0b0001;"
                + "thing 2 3 = 0b1000; thing 3 3 = 0b0101; bar 1 0 true = NONE");
        });
        sentence("(numbers of bars are those of all things)", () -> {
            run("put 1/1 2/2").text("5/5!0;6/6!2!1").does("addAll = 4; thing 2 3 = 0b1001; thing 3 3 = 0b0110; thing 0 3 = 0b0100;"
                + "thing 1 3 = 0b1000; addAll = 6; thing 4 3 = 0b000001; thing 5 3 = 0b000110; thing 0 3 = 0b010100;"
                + "thing 2 3 = 0b101001; count 2 = 6");
            run("put 11x1/1").text("5/5!10").does("addAll = 12; thing 11 3 = 0b10000000000; thing 10 3 = 0b100000000000");
        });
        sentence("; all of them, or none.", () -> {
            run("put 1/1").text("5/5;6/6!2").does("addAll = UNKNOWN; count 0 = 1; count 2 = 0; thing 1 0 = UNKNOWN");
            run("put 1/1").text("5/5!0;6/6;").does("addAll = -110; count 0 = 1; count 2 = 0; thing 0 3 = 0");
            run("put 11x1/1").text("5/5!0;6/6!0").does("addAll = FULL; count 0 = 11; count 2 = 0; thing 0 3 = 0");
        });
        sentence("This is one act.", () -> {
            run("add 1 1").text("5/5!0;6/6!1;7/7").does("addAll = 4; count 15 = 2; undo = 1; count 0 = 1; count 2 = 0; undo = 0;"
                + "count 0 = 0; count 16 = 15");
        });
    }

    private void addAllRefuses() {
        sentence("Returns how many things there are then;", () -> {
            run("").text("5/5").does("addAll = 1; addAll = 2; add 1 1 = 2; addAll = 4; remove 0 = 3; addAll = 4");
            run("").text("5/5;5/5;5/5").does("addAll = 3; addAll = 6; addAll = 9; addAll = 12");
        });
        sentence("; -100 minus the fault of the text if it has one (which is an error)", () -> {
            run("addAll = -100; count 15 = 0; type 48; addAll = -100; clearText; type 53; addAll = -101; type 47; addAll = -102;"
                + "type 53; type 33; addAll = -104; count 15 = 0; count 0 = 0");
            run("").text("1/1;".repeat(20)).does("addAll = -180; count 15 = 0");
            run("begin").text("x").does("addAll = -100");
        });
        sentence("; NOT_POSSIBLE if a search goes on", () -> {
            run("").text("5/5").does("begin; addAll = NOT_POSSIBLE; count 0 = 0; count 16 = 3; step 1; addAll = 1");
            run("put 12x1/1; begin").text("5/5").does("addAll = NOT_POSSIBLE").text("5/5!10").does("addAll = NOT_POSSIBLE; giveUp;"
                + "addAll = FULL");
        });
        sentence("; FULL if there would be more than 12", () -> {
            run("put 9x1/1").text("5/5;6/6;7/7").does("addAll = 12; count 0 = 12; addAll = FULL; undo; add 1 1 = 9; addAll = FULL;"
                + "count 0 = 10");
            run("").text("1/1" + ";1/1".repeat(11)).does("addAll = 12");
            run("").text("1/1" + ";1/1".repeat(12)).does("addAll = FULL; count 0 = 0");
            run("").text("1/1" + ";1/1".repeat(19)).does("addAll = FULL; count 0 = 0");
            run("put 12x1/1").text("5/5").does("addAll = FULL");
            run("put 12x1/1").text("5/5!10").does("addAll = FULL");
            run("put 5x1/1").text("1/1!9" + ";1/1".repeat(7)).does("addAll = FULL; remove 0; addAll = UNKNOWN");
            run("put 12x1/1; begin; step 1").text("5/5").does("addAll = FULL; count 6 = 1; count 8 = 12");
        });
        sentence("; UNKNOWN if a bar names a thing that does not come ahead of it.", () -> {
            run("").text("5/5!0").does("addAll = UNKNOWN");
            run("").text("5/5;6/6!1").does("addAll = UNKNOWN").text("5/5;6/6!0").does("addAll = 2");
            run("").text("5/5!1;6/6").does("addAll = UNKNOWN");
            run("").text("5/5;6/6!0;7/7!0!2").does("addAll = UNKNOWN; count 0 = 0; count 2 = 0; count 15 = 0");
            run("").text("5/5;6/6!9").does("addAll = UNKNOWN").text("5/5").does("addAll = 1").text("7/7!1").does("addAll = UNKNOWN");
            run("put 1/1").text("5/5!1").does("addAll = UNKNOWN").text("5/5!0").does("addAll = 2");
            run("put 10x1/1").text("5/5!10").does("addAll = UNKNOWN; add 1 1 = 10; addAll = 12");
            run("put 10x1/1").text("5/5!9;5/5!10").does("addAll = 12; thing 11 3 = 0b10000000000; thing 9 3 = 0b10000000000");
        });
    }

    private void remove() {
        section("4");
        sentence("Removes a thing",
            "put 11/1 22/2 33/3; remove 1 = 2; thing 0 0 = 11; thing 1 0 = 33; thing 1 1 = 3; thing 2 0 = UNKNOWN;"
                + "thing 0 2 = 0; thing 1 2 = 1; bestSum = 44",
            "put 30/3 10/2 20/1; thing 0 2 = 1; remove 0 = 2; thing 0 2 = 1; thing 1 2 = 0; heelOf 0 0 = 0b11",
            "put 12x5/5; remove 11 = 11; remove 0 = 10; count 0 = 10; boundOf 0b1111111111 0 = NOT_POSSIBLE; setRoom 50;"
                + "boundOf 0b1111111111 0 = 50; boundOf 0b10000000000 0 = BAD_VALUE");
        sentence(", with its bars.",
            "put 11/1 22/2 33/3; bar 0 1 true; bar 1 2 true; bar 0 2 true; remove 1 = 2; count 2 = 1; thing 0 3 = 0b10;"
                + "thing 1 3 = 0b01; remove 0 = 1; count 2 = 0; thing 0 3 = 0; add 5 5 = 1; thing 0 3 = 0; thing 1 3 = 0",
            "put 11/1 22/2; bar 0 1 true; remove 1; add 33 3 = 1; count 2 = 0; bar 0 1 false = NONE; boundOf 0b11 0 = 44");
        sentence("This is an act.",
            "put 11/1 22/2; bar 0 1 true; count 15 = 3; remove 0 = 1; count 15 = 4; undo = 3; count 0 = 2; thing 0 0 = 11;"
                + "thing 1 0 = 22; thing 0 3 = 0b10; thing 1 3 = 0b01; count 2 = 1");
        sentence("thing: a thing",
            "put 3x5/5; remove -1 = UNKNOWN; remove 3 = UNKNOWN; remove 2 = 2; remove 2 = UNKNOWN; remove 0 = 1; remove 0 = 0");
        sentence("Returns how many are left",
            "put 4x5/5; remove 3 = 3; remove 1 = 2; remove 0 = 1; remove 0 = 0; remove 0 = UNKNOWN");
        sentence("UNKNOWN", "remove 0 = UNKNOWN; put 5/5; remove 1 = UNKNOWN; remove -1 = UNKNOWN; remove least = UNKNOWN;"
            + "remove most = UNKNOWN; remove 12 = UNKNOWN; remove 32 = UNKNOWN; begin; remove 1 = UNKNOWN; count 0 = 1");
        sentence("NOT_POSSIBLE if a search goes on.",
            "put 5/5; begin; remove 0 = NOT_POSSIBLE; count 0 = 1; step 1; remove 0 = 0; count 8 = NONE",
            FIVE + "begin; step 1; remove 4 = NOT_POSSIBLE; giveUp; remove 4 = 4");
    }

    private void bar() {
        section("5");
        sentence("Lets two things bar each other, or not.",
            "put 10/5 9/5 8/5; bar 2 0 true = 1; thing 0 3 = 0b100; thing 2 3 = 0b001; boundOf 0b101 0 = NOT_POSSIBLE;"
                + "bar 0 2 false = 0; thing 0 3 = 0; thing 2 3 = 0; boundOf 0b101 0 = 27; bestSum = 27");
        sentence("This is an act.",
            "put 5/5 6/6; bar 0 1 true = 1; count 15 = 3; bar 1 0 false = 0; count 15 = 4; undo = 3; thing 0 3 = 0b10;"
                + "undo = 2; thing 0 3 = 0; thing 1 3 = 0; count 0 = 2");
        sentence("one: a thing other: another thing",
            "put 12x5/5; bar 11 0 true = 1; bar 0 11 false = 0; bar 0 0 true = BAD_VALUE; bar 12 0 true = UNKNOWN;"
                + "bar 0 12 true = UNKNOWN; bar -1 0 true = UNKNOWN; bar 0 -1 true = UNKNOWN");
        sentence("bar: whether they bar each other then",
            "put 5/5 6/6; bar 0 1 false = NONE; bar 0 1 true = 1; bar 0 1 true = NONE; bar 0 1 false = 0;"
                + "bar 0 1 false = NONE");
        sentence("Returns how many pairs bar each other then;",
            "put 4x5/5; bar 0 1 true = 1; bar 2 1 true = 2; bar 3 0 true = 3; bar 1 0 false = 2; bar 1 2 false = 1;"
                + "bar 0 3 false = 0");
        sentence("UNKNOWN (one or other)",
            "bar 0 1 true = UNKNOWN; put 5/5; bar 0 1 true = UNKNOWN; bar 1 0 true = UNKNOWN; bar 1 1 true = UNKNOWN;"
                + "bar -1 0 true = UNKNOWN; bar 0 least true = UNKNOWN; bar most 0 false = UNKNOWN; bar 32 0 true = UNKNOWN;"
                + "begin; bar 0 1 true = UNKNOWN");
        sentence("BAD_VALUE if both are the same",
            "put 5/5 6/6; bar 0 0 true = BAD_VALUE; bar 1 1 false = BAD_VALUE; begin; bar 1 1 true = BAD_VALUE; count 2 = 0");
        sentence("NOT_POSSIBLE if a search goes on",
            "put 5/5 6/6; begin; bar 0 1 true = NOT_POSSIBLE; bar 0 1 false = NOT_POSSIBLE; count 2 = 0; step 1;"
                + "bar 0 1 true = 1; count 8 = NONE");
        sentence("NONE if it is so already.",
            "put 5/5 6/6; bar 0 1 false = NONE; bar 1 0 false = NONE; bar 0 1 true = 1; bar 0 1 true = NONE;"
                + "bar 1 0 true = NONE; count 2 = 1; count 15 = 3; begin; step 200; bar 0 1 true = NONE; count 8 = 6");
    }

    private void setRoom() {
        section("6");
        sentence("Sets the room.",
            "put 10/10 20/20; setRoom 20 = 30; count 1 = 20; bestSum = 20; boundOf 0b11 0 = NOT_POSSIBLE; setRoom 10;"
                + "bestSum = 10; heelOf 0 0 = 0b01; setRoom 9; bestSum = 0");
        sentence("This is an act.",
            "setRoom 9 = 30; count 15 = 1; setRoom 8 = 9; count 15 = 2; undo = 1; count 1 = 9; undo = 0; count 1 = 30");
        sentence("room: 0 to 200", "setRoom 0 = 30; setRoom 200 = 0; setRoom 1 = 200; setRoom 199 = 1; count 1 = 199");
        sentence("Returns the previous one;", "setRoom 7 = 30; setRoom 8 = 7; setRoom 30 = 8; setRoom 0 = 30; setRoom 5 = 0");
        sentence("BAD_VALUE",
            "setRoom -1 = BAD_VALUE; setRoom 201 = BAD_VALUE; setRoom least = BAD_VALUE; setRoom most = BAD_VALUE;"
                + "setRoom 256 = BAD_VALUE; begin; setRoom 201 = BAD_VALUE; count 1 = 30");
        sentence("NOT_POSSIBLE if a search goes on",
            "begin; setRoom 5 = NOT_POSSIBLE; setRoom 30 = NOT_POSSIBLE; count 1 = 30; step 1; setRoom 5 = 30; count 6 = 0");
        sentence("NONE if it is so already.",
            "setRoom 30 = NONE; setRoom 0 = 30; setRoom 0 = NONE; count 15 = 1; begin; step 1; setRoom 0 = NONE; count 6 = 1;"
                + "count 15 = 3");
    }
}
