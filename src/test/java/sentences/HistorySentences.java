import java.util.List;

/** HISTORY: what is recorded, dropped, taken back and kept. */
final class HistorySentences extends Sentences {
    /** Places for acts: what is done ahead, the text, and calls that are acts there. */
    private static final String[][] ACTS = {
        {"", "5/5", "add 5 5", "addAll", "setRoom 5", "set 0 1", "set 1 2", "begin"},
        {FIVE, "5/5!0", "add 99 50", "addAll", "remove 0", "remove 4", "bar 0 1 true", "setRoom 0", "setRoom 200", "set 0 2",
            "set 1 1", "begin"},
        {FIVE + "bar 0 1 true; bar 0 2 true; keep; setRoom 31; ", "6/6!0;7/7!5!1", "addAll", "remove 0", "remove 1", "bar 1 0 false", "begin",
            "restore"},
        {FIVE + "keep; set 0 1; begin; ", "5/5", "step 1", "step 200", "dive", "giveUp", "set 0 0", "set 1 2", "restore"},
        {FIVE + "begin; keep; step 1; ", "5/5", "step 1", "step 2", "dive", "giveUp", "set 0 2", "restore"},
        {FIVE + "begin; step 1; keep; step 200; ", "5/5", "add 1 1", "addAll", "remove 2", "bar 0 1 true", "setRoom 7", "set 0 1",
            "begin", "restore"},
        {FIVE + "begin; step 1; giveUp; ", "5/5", "add 1 1", "addAll", "remove 2", "bar 0 1 true", "setRoom 7", "begin"},
        {"put 12x2/2; keep; remove 5; add 7 7; ", "5/5", "remove 0", "remove 11", "bar 0 11 true", "begin", "restore"},
        {WIDE + "begin; step 197; keep; step 1; ", "5/5", "step 1", "giveUp", "set 0 0", "restore"},
        {WIDE + "begin; keep; step 199; ", "5/5", "giveUp", "set 1 0", "restore"},
    };

    HistorySentences(Book book) {
        super(book);
    }

    @Override
    void all() {
        section("HISTORY");
        sentence("A history of at most 4 states is kept",
            "count 15 = 0; add 1 1; count 15 = 1; add 2 2; count 15 = 2; add 3 3; count 15 = 3; add 4 4; count 15 = 4; add 5 5;"
                + "count 15 = 4; add 6 6; count 15 = 4; undo = 3; undo = 2; undo = 1; undo = 0; undo = NONE; count 15 = 0",
            WIDE + "begin; 9 * step 1 = 1; count 15 = 4; 9 * undo; count 15 = 0; count 11 = 5");
        sentence("; when one more is recorded, the oldest one is dropped;",
            "put 1/1 2/2 3/3 4/4 5/5 6/6; undo = 3; count 0 = 5; undo = 2; count 0 = 4; undo = 1; count 0 = 3; undo = 0;"
                + "count 0 = 2; undo = NONE; count 0 = 2; thing 0 0 = 1; thing 1 0 = 2",
            "put 4x1/1; undo = 3; undo = 2; undo = 1; undo = 0; count 0 = 0",
            "put 5x1/1; undo = 3; undo = 2; undo = 1; undo = 0; count 0 = 1",
            "put 5x1/1; undo = 3; undo = 2; add 7 7 = 3; add 8 8 = 4; add 9 9 = 5; count 15 = 4; undo = 3; thing 4 0 = 8;"
                + "undo = 2; thing 3 0 = 7; undo = 1; undo = 0; count 0 = 2; undo = NONE",
            "put 11x1/1; undo = 3; undo = 2; undo = 1; undo = 0; count 0 = 7; undo = NONE");
        sentence("; undo() removes and restores the latest one.",
            "add 5 5; setRoom 9; undo = 1; count 1 = 30; count 0 = 1; undo = 0; count 0 = 0; undo = NONE; setRoom 9 = 30",
            "add 5 5; undo = 0; add 6 6 = 0; thing 0 0 = 6; count 15 = 1; undo = 0; count 0 = 0; undo = NONE",
            FIVE + "begin; step 1; step 1; undo = 3; count 6 = 3; count 8 = 157; count 11 = 1; node 2 4 = 0; undo = 2;"
                + "count 6 = 1; count 8 = 0; node 0 4 = 0; node 1 4 = UNKNOWN; undo = 1; count 6 = 0; count 8 = NONE;"
                + "undo = 0; count 0 = 4");
        sentence("Each call of a method that is described as an act, and returns no error and not NONE, records the state that was"
            + " before it.", this::actsAreRecorded);
        snapshot();
        state();
    }

    private void actsAreRecorded() {
        for (String[] acts : ACTS) {
            for (int place = 2; place < acts.length; place++) {
                List<Call> ahead = run(acts[0]).text(acts[1]).calls();
                Run run = run(acts[0]).text(acts[1]);
                int states = run.ask("count 15");
                run = run(acts[0]).text(acts[1]);
                String told = "'" + acts[place] + "' behind '" + acts[0] + "'";
                book.isTrue(told + " is done", run.ask(acts[place]) >= 0);
                book.isTrue(told + " changes something", !Tells.same(Tells.behind(ahead), Tells.behind(run.calls())));
                book.isTrue(told + " is taken back", Tells.same(Tells.state(ahead), Tells.state(run.calls(), "undo")));
                run.is("count 15", Math.min(4, states + 1)).is("undo", Math.min(4, states + 1) - 1);
            }
        }
        for (String none : new String[] {"type 49", "clearText", "keep", "thing 0 0", "node 0 0", "next", "branchOf 0 0",
            "boundOf 0 0", "heelOf 0 0", "bestSum", "count 0"}) {
            run(FIVE + "undo; undo; undo; begin; count 15 = 2; " + none + "; count 15 = 2; undo = 1; count 0 = 2; count 6 = 0");
            run(FIVE + "begin; " + none + "; count 15 = 4; undo = 3; count 0 = 5; count 6 = 0; undo = 2; count 0 = 4");
        }
        run(FIVE + "undo; undo; undo; add 0 1 = BAD_VALUE; bar 0 1 false = NONE; setRoom 30 = NONE; set 0 0 = NONE; giveUp = NONE;"
            + "restore = NONE; remove 7 = UNKNOWN; step 1 = NOT_POSSIBLE; dive = NOT_POSSIBLE; addAll = -100; count 15 = 1");
    }

    private void snapshot() {
        sentence("There is one snapshot, empty at first.",
            "restore = NONE; put 5/5; restore = NONE; count 0 = 1",
            "keep = 0; put 5/5; restore = 0; count 0 = 0; restore = 0",
            "put 5/5; keep = 1; put 6/6; keep = 2; put 7/7; restore = 2; thing 1 0 = 6; undo; undo; restore = 2; setRoom 9;"
                + "restore = 2; count 1 = 30",
            "put 5/5; keep; undo; undo = NONE; restore = 1; thing 0 0 = 5");
    }

    private void state() {
        sentence("A state is everything but the text, the history and the snapshot.", () -> {
            run("add 5 5").text("6/6").does("undo = 0; count 16 = 3; addAll = 1; thing 0 0 = 6; clearText = 3; undo = 0; count 16 = 0");
            run("keep").text("6/6").does("restore = 0; count 16 = 3; addAll = 1; clearText; restore; count 16 = 0; addAll = -100");
            run("add 5 5; keep; add 6 6; count 15 = 2; restore = 1; count 15 = 3; undo = 2; count 0 = 2; undo = 1; count 0 = 1;"
                + "undo = 0; count 0 = 0; restore = 1");
            run("add 5 5; keep = 1; undo = 0; restore = 1; undo = 0; keep = 0; restore = 0; count 0 = 0");
            String all = FIVE + "bar 0 1 true; bar 0 2 true; setRoom 40; set 0 1; set 1 1; begin; step 1; ";
            String others = "giveUp; setRoom 7; bar 0 3 true; remove 1; add 9 9; set 0 0; set 1 1; begin; step 1; ";
            int[] due = Tells.state(run(all).calls());
            book.isTrue("the snapshot brings back all", Tells.same(due, Tells.state(run(all + "keep; " + others + "restore").calls())));
            for (String act : new String[] {"giveUp", "step 1", "step 200", "dive", "set 0 2", "set 1 0"}) {
                book.isTrue("undo() of " + act + " brings back all",
                    Tells.same(due, Tells.state(run(all + act + "; undo").calls())));
            }
            String over = all + "step 200; ";
            due = Tells.state(run(over).calls());
            for (String act : new String[] {"add 1 1", "remove 0", "bar 0 1 false", "setRoom 9", "begin"}) {
                book.isTrue("undo() of " + act + " brings back all",
                    Tells.same(due, Tells.state(run(over + act + "; undo").calls())));
            }
        });
    }
}
