import java.util.List;

/** ERRORS: their order, that they change nothing, and the constants. */
final class ErrorsSentences extends Sentences {
    private static final String FULL_TEXT = "1/1;".repeat(20);

    /** Places, the text there, and calls that are refused there. */
    private static final String[][] REFUSED = {
        {"", "", "add 0 1 = BAD_VALUE", "add 1 0 = BAD_VALUE", "add 100 1 = BAD_VALUE", "add 1 51 = BAD_VALUE", "addAll = -100",
            "remove 0 = UNKNOWN", "bar 0 1 true = UNKNOWN", "setRoom 30 = NONE", "setRoom 201 = BAD_VALUE", "setRoom -1 = BAD_VALUE",
            "set 0 0 = NONE", "set 1 0 = NONE", "set 2 0 = UNKNOWN", "set 0 3 = BAD_VALUE", "step 1 = NOT_POSSIBLE",
            "step 0 = BAD_VALUE", "dive = NOT_POSSIBLE", "giveUp = NONE", "undo = NONE", "restore = NONE", "thing 0 0 = UNKNOWN",
            "node 0 0 = UNKNOWN", "next = NONE", "branchOf 0 0 = UNKNOWN", "boundOf 1 0 = BAD_VALUE", "heelOf 1 0 = BAD_VALUE",
            "count 17 = BAD_VALUE", "count 8 = NONE"},
        {FIVE + "bar 0 1 true; setRoom 12; keep; setRoom 13; ", "1/1;2/2!", "add 1 51 = BAD_VALUE", "addAll = -108",
            "remove 5 = UNKNOWN", "remove -1 = UNKNOWN", "bar 0 5 true = UNKNOWN", "bar 5 0 true = UNKNOWN", "bar 1 1 true = BAD_VALUE",
            "bar 0 1 true = NONE", "bar 1 0 true = NONE", "bar 0 2 false = NONE", "setRoom 13 = NONE", "setRoom 999 = BAD_VALUE",
            "set 0 0 = NONE", "step 200 = NOT_POSSIBLE", "dive = NOT_POSSIBLE", "giveUp = NONE", "thing 5 0 = UNKNOWN",
            "thing 0 5 = BAD_VALUE", "boundOf 3 0 = NOT_POSSIBLE", "heelOf 6 0 = NOT_POSSIBLE", "boundOf 1 1 = BAD_VALUE"},
        {FIVE, "1/1!0;2/2!6", "addAll = UNKNOWN", "restore = NONE", "bar 0 1 false = NONE"},
        {FIVE, "1/1;1/1;1/1;1/1;1/1;1/1;1/1;1/1", "addAll = FULL", "remove 7 = UNKNOWN"},
        {FIVE + "set 0 1; keep; begin; step 1; ", "5/5", "add 5 5 = NOT_POSSIBLE", "add 0 5 = BAD_VALUE", "addAll = NOT_POSSIBLE",
            "remove 0 = NOT_POSSIBLE", "remove 5 = UNKNOWN", "bar 0 1 true = NOT_POSSIBLE", "bar 0 1 false = NOT_POSSIBLE",
            "bar 0 0 true = BAD_VALUE", "setRoom 9 = NOT_POSSIBLE", "setRoom 30 = NOT_POSSIBLE", "setRoom 201 = BAD_VALUE",
            "set 0 1 = NONE", "set 1 3 = BAD_VALUE", "begin = NOT_POSSIBLE", "step 0 = BAD_VALUE", "step 201 = BAD_VALUE",
            "node 3 0 = UNKNOWN", "node 0 0 = NONE", "node 0 8 = BAD_VALUE", "branchOf 3 0 = UNKNOWN", "branchOf 0 3 = BAD_VALUE"},
        {FIVE + "begin; step 1; step 200; ", "5/5!", "add 5 0 = BAD_VALUE", "addAll = -104", "remove 5 = UNKNOWN",
            "bar 0 1 false = NONE", "setRoom 30 = NONE", "step 1 = NOT_POSSIBLE", "dive = NOT_POSSIBLE", "giveUp = NONE",
            "next = NONE", "restore = NONE"},
        {FIVE + "begin; giveUp; ", "1/1;1/1!6", "addAll = UNKNOWN", "step 1 = NOT_POSSIBLE", "dive = NOT_POSSIBLE", "giveUp = NONE",
            "setRoom 30 = NONE"},
        {"put 12x2/2; ", FULL_TEXT, "add 1 1 = FULL", "add 1 0 = BAD_VALUE", "addAll = -180", "type 49 = FULL", "type 59 = FULL"},
        {FIVE, "5/5;0/7!9;6/6", "addAll = -104"},
        {"put 12x1/1; begin; step 1; ", "1/1", "add 1 1 = FULL", "addAll = FULL", "remove 12 = UNKNOWN", "bar 12 0 true = UNKNOWN"},
        {"put 11x2/2; ", "1/1;1/1", "addAll = FULL", "remove 11 = UNKNOWN"},
        {WIDE + "begin; step 199; ", "5/5", "step 1 = FULL", "step 200 = FULL", "dive = FULL", "begin = NOT_POSSIBLE",
            "add 1 1 = NOT_POSSIBLE", "node 399 0 = UNKNOWN", "set 0 2 = NONE"},
        {WIDE + "begin; step 198; keep; ", "5/5", "step 2 = FULL", "step 200 = FULL"},
        {ENDLESS + "begin; step 9; ", "5/5", "step 200 = FULL", "dive = FULL"},
        {WIDE + "begin; ", "5/5", "step 200 = FULL", "dive = FULL"},
    };

    ErrorsSentences(Book book) {
        super(book);
    }

    @Override
    void all() {
        section("ERRORS");
        sentence("Errors are reported by the constants below.", "remove 0 = -1; add 0 1 = -2; step 1 = -4; undo = -5",
            "12 * add 1 1; add 1 1 = -3");
        orderOfChecks();
        none();
        sentence("A call that returns an error or NONE changes nothing.", this::changesNothing);
        constants();
    }

    private void orderOfChecks() {
        sentence("Where several errors can apply, the order of the @return line is the order of the checks.", () -> {
            run("put 12x5/5; add 0 1 = BAD_VALUE; add 1 1 = FULL; begin; add 0 1 = BAD_VALUE; add 1 51 = BAD_VALUE;"
                + "add 1 1 = NOT_POSSIBLE; setRoom 201 = BAD_VALUE; setRoom 30 = NOT_POSSIBLE; remove 12 = UNKNOWN;"
                + "remove 0 = NOT_POSSIBLE; bar 12 12 true = UNKNOWN; bar 0 12 true = UNKNOWN; bar 12 0 false = UNKNOWN;"
                + "bar 3 3 true = BAD_VALUE; bar 3 4 false = NOT_POSSIBLE; bar 3 4 true = NOT_POSSIBLE");
            run("put 12x5/5").text("5/5!10!").does("addAll = -107").type("1").does("addAll = FULL; begin; addAll = NOT_POSSIBLE")
                .type("1").does("addAll = -108");
            run("put 11x5/5").text("5/5;6/6!10;5/5!").does("addAll = -115").type("9").does("addAll = FULL; remove 0; remove 0;"
                + "addAll = UNKNOWN; begin; addAll = NOT_POSSIBLE");
            run("put 5x1/1").text("1/1!9" + ";1/1".repeat(7)).does("addAll = FULL; remove 0; addAll = UNKNOWN");
            run("set 2 3 = UNKNOWN; set -1 0 = UNKNOWN; set 2 0 = UNKNOWN; set 0 3 = BAD_VALUE; set 1 -1 = BAD_VALUE; set 1 0 = NONE");
            run("step 0 = BAD_VALUE; step 201 = BAD_VALUE; step 1 = NOT_POSSIBLE");
            run(WIDE + "begin; step 199; step 0 = BAD_VALUE; step 201 = BAD_VALUE; step 200 = FULL; giveUp; step 200 = NOT_POSSIBLE;"
                + "step 201 = BAD_VALUE; dive = NOT_POSSIBLE");
            run("thing 0 9 = UNKNOWN; put 5/5; thing 1 9 = UNKNOWN; thing -1 -1 = UNKNOWN; thing 0 5 = BAD_VALUE");
            run("node 0 9 = UNKNOWN; put 5/5; begin; node 1 9 = UNKNOWN; node -1 -1 = UNKNOWN; node 0 8 = BAD_VALUE");
            run("branchOf 0 3 = UNKNOWN; begin; branchOf 1 3 = UNKNOWN; branchOf 0 3 = BAD_VALUE; branchOf 0 0 = NONE");
            run("put 5/5 6/6; setRoom 5; boundOf 0b111 0 = BAD_VALUE; boundOf 0b11 0b10 = BAD_VALUE; boundOf 0b11 0 = NOT_POSSIBLE;"
                + "heelOf 0b111 0 = BAD_VALUE; heelOf 0b11 0b01 = BAD_VALUE; heelOf 0b11 0b100 = BAD_VALUE; heelOf 0b11 0 = NOT_POSSIBLE");
        });
    }

    private void none() {
        sentence("NONE is no error; it is returned only if no error applies.",
            "put 5/5 6/6; bar 0 1 false = NONE; setRoom 30 = NONE; begin; bar 0 1 false = NOT_POSSIBLE;"
                + "setRoom 30 = NOT_POSSIBLE; bar 0 0 false = BAD_VALUE; bar 0 2 false = UNKNOWN",
            "begin; node 0 0 = NONE; node 0 1 = NONE; node 1 0 = UNKNOWN; node 1 1 = UNKNOWN; node 0 8 = BAD_VALUE;"
                + "branchOf 0 0 = NONE; branchOf 0 -1 = BAD_VALUE; branchOf -1 0 = UNKNOWN",
            "count 8 = NONE; count 17 = BAD_VALUE; count -1 = BAD_VALUE; set 0 0 = NONE; set 0 -1 = BAD_VALUE;"
                + "set 3 0 = UNKNOWN",
            "put 5/5; restore = NONE; undo = 0; undo = NONE; next = NONE; giveUp = NONE; count 9 = NONE; count 10 = NONE");
    }

    private void changesNothing() {
        for (String[] refused : REFUSED) {
            List<Call> ahead = run(refused[0]).text(refused[1]).calls();
            int[][] due = Tells.deeply(ahead);
            for (int place = 2; place < refused.length; place++) {
                Run run = run(refused[0]).text(refused[1]).does(refused[place]);
                book.isTrue("'" + refused[place] + "' behind '" + refused[0] + "'", Tells.same(due, Tells.deeply(run.calls())));
            }
        }
    }

    private void constants() {
        sentence("The constants: UNKNOWN = -1: There is no such thing or node.",
            "remove 0 = -1; thing 0 0 = -1; node 0 0 = -1; branchOf 0 0 = -1; bar 0 1 true = -1; remove 0 = UNKNOWN");
        sentence("BAD_VALUE = -2: Another argument is out of range.",
            "add 0 1 = -2; setRoom 201 = -2; set 0 3 = -2; step 0 = -2; boundOf 1 0 = -2; heelOf 0 1 = -2; count 17 = -2;"
                + "count 17 = BAD_VALUE");
        sentence("FULL = -3: There is no more room.", "put 12x1/1; add 1 1 = -3; add 1 1 = FULL", "80 * type 49; type 49 = -3");
        sentence("NOT_POSSIBLE = -4: This is not possible.", "step 1 = -4; dive = -4; begin; begin = -4; begin = NOT_POSSIBLE");
        sentence("NONE = -5: There is no such value; not an error.",
            "undo = -5; restore = -5; giveUp = -5; next = -5; setRoom 30 = -5; count 8 = -5; count 8 = NONE");
    }
}
