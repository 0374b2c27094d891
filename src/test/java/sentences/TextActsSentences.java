/** Promises 12 to 16: the text, undo and the snapshot. */
final class TextActsSentences extends Sentences {
    TextActsSentences(Book book) {
        super(book);
    }

    @Override
    void all() {
        type();
        clearText();
        undo();
        keep();
        restore();
    }

    private void type() {
        section("12");
        sentence("Types a character behind the text.",
            "type 53 = 1; type 47 = 2; type 54 = 3; addAll = 1; thing 0 0 = 5; thing 0 1 = 6; type 48 = 4; addAll = -103;"
                + "type 59 = 5; addAll = -103; count 15 = 1",
            "type 53; type 47; type 53; begin; type 48 = 4; step 1; setRoom 99; addAll = 1; thing 0 1 = 50");
        sentence("character: any character", () -> {
            Run run = run("");
            int length = 0;
            for (int sign : new int[] {0, 1, 9, 10, 13, 31, 32, 33, 47, 48, 57, 59, 65, 97, 126, 127, 128, 160, 233, 255, 256, 0x661,
                0x7fff, 0x8000, 0xd800, 0xdfff, 0xfffe, 0xffff}) {
                run.is("type " + sign, ++length);
            }
            run.is("count 16", length).is("addAll", -100).is("clearText", length);
            run("type 305; type 47; type 49; addAll = -100; clearText; type 49; type 303; type 49; addAll = -101; clearText; type 49;"
                + "type 47; type 49; type 16443; addAll = -103; clearText; type 49; type 47; type 49; addAll = 1");
        });
        sentence("Returns the length of the text then",
            "type 49 = 1; type 49 = 2; clearText = 2; type 49 = 1; 78 * type 49; type 49 = 80");
        sentence("; FULL if it has 80 characters.",
            "79 * type 49; count 16 = 79; type 49 = 80; type 49 = FULL; type 0 = FULL; type 65535 = FULL; count 16 = 80;"
                + "addAll = -102; clearText = 80; type 49 = 1; count 15 = 0");
    }

    private void clearText() {
        section("13");
        sentence("Empties the text.", () -> {
            run("").text("5/5").does("clearText; count 16 = 0; addAll = -100; type 54; addAll = -101; count 15 = 0; count 0 = 0");
            run("put 7/7; begin").text("5/5").does("clearText = 3; count 5 = 1; count 6 = 1; count 15 = 2");
            run("").text("5/5;6/6").does("clearText").type("7/7").does("addAll = 1; thing 0 0 = 7; count 16 = 3");
        });
        sentence("Returns the length that it had.",
            "clearText = 0; type 49; clearText = 1; clearText = 0; 80 * type 49; type 49 = FULL; clearText = 80;"
                + "clearText = 0");
    }

    private void undo() {
        section("14");
        sentence("Removes and restores the latest state of the history.",
            "add 5 5; setRoom 9; set 0 1; count 15 = 3; undo; count 15 = 2; count 3 = 0; count 1 = 9; undo; count 1 = 30;"
                + "count 0 = 1; undo; count 0 = 0; count 15 = 0",
            FIVE + "begin; undo = 3; add 5 5 = 5; undo = 3; begin; step 1; undo = 3; undo = 2; add 5 5 = 5",
            "begin; add 5 5 = NOT_POSSIBLE; undo = 0; add 5 5 = 0; count 15 = 1");
        sentence("Returns the number of states that are left",
            "add 1 1; undo = 0; put 2x1/1; undo = 1; undo = 0; put 4x1/1; undo = 3; undo = 2; put 7x1/1; undo = 3;"
                + "undo = 2; undo = 1; undo = 0");
        sentence("; NONE if the history is empty.",
            "undo = NONE; keep; type 49; undo = NONE; add 1 1; undo = 0; undo = NONE; undo = NONE; count 0 = 0; count 16 = 1",
            "put 6x1/1; 4 * undo; undo = NONE; count 0 = 2");
    }

    private void keep() {
        section("15");
        sentence("Takes a snapshot of the state",
            FIVE + "bar 0 1 true; set 0 1; set 1 2; begin; step 1; keep = 5; count 15 = 4; count 5 = 1; giveUp; remove 0;"
                + "set 0 0; setRoom 9; restore = 5; count 1 = 30; count 2 = 1; count 3 = 1; count 4 = 2; count 5 = 1;"
                + "count 6 = 3; count 11 = 1",
            "keep = 0; put 5/5; restore = 0; count 0 = 0");
        sentence(", in place of the one that was.",
            "put 5/5; keep = 1; put 6/6; keep = 2; remove 0; restore = 2; thing 0 0 = 5; thing 1 0 = 6; undo; undo; undo;"
                + "restore = 2",
            "put 5/5 6/6; keep = 2; remove 0; keep = 1; add 7 7; restore = 1; thing 0 0 = 6; keep = 1; restore = 1");
        sentence("Returns how many things there are.",
            "keep = 0; put 5/5; keep = 1; put 11x1/1; keep = 12; begin; keep = 12; count 15 = 4");
    }

    private void restore() {
        section("16");
        sentence("Restores the state of the snapshot",
            FIVE + "begin; step 1; keep; step 200; setRoom 9; restore = 5; count 1 = 30; count 5 = 1; count 7 = 2;"
                + "count 8 = 157; count 9 = 0b10101; next = 2; step 200 = 2; count 8 = 159",
            "put 5/5; keep; begin; restore = 1; count 5 = 0; count 6 = 0; add 6 6 = 1",
            WIDE + "begin; step 199; keep; giveUp; remove 0; restore = 12; count 6 = 399; node 398 2 = 1; step 1 = FULL");
        sentence(", which stays.",
            "put 5/5; keep; remove 0; restore = 1; remove 0; restore = 1; undo; restore = 1; add 6 6; restore = 1;"
                + "thing 0 0 = 5",
            FIVE + "begin; keep; restore; step 1; restore; count 6 = 1; node 0 4 = 0; restore; count 6 = 1");
        sentence("This is an act.",
            "put 5/5; keep; put 6/6 7/7; count 15 = 3; restore = 1; count 15 = 4; undo = 3; count 0 = 3; thing 2 0 = 7",
            "keep; restore = 0; count 15 = 1; restore = 0; count 15 = 2; undo = 1; undo = 0; undo = NONE");
        sentence("Returns how many things there are then",
            "keep; restore = 0; put 3x5/5; restore = 0; undo; keep = 3; remove 0; restore = 3");
        sentence("; NONE if there is no snapshot.",
            "restore = NONE; add 5 5; undo; restore = NONE; count 15 = 0; keep; restore = 0");
    }
}
