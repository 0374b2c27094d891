import java.util.ArrayList;
import java.util.List;

/** A new object and the calls that are done on it: the document promises 512, so that more are a fault. */
final class Run {
    private static final int MOST_CALLS = 512;

    private final Book book;
    private final BranchedSums sums = new BranchedSums();
    private final List<Call> calls = new ArrayList<>();

    Run(Book book) {
        this.book = book;
    }

    /** Calls with ";" between two: "add 5 5 = 0; 3 * undo = NONE; put 60/10 2x7/2", the last one for three things. */
    Run does(String script) {
        for (String part : script.split(";")) {
            if (!part.isBlank()) one(part.trim());
        }
        return this;
    }

    private void one(String part) {
        if (part.startsWith("put ")) {
            put(part.substring(4).trim().split(" +"));
            return;
        }
        int times = 1;
        String call = part;
        int star = part.indexOf(" * ");
        if (star > 0) {
            times = Integer.parseInt(part.substring(0, star).trim());
            call = part.substring(star + 3);
        }
        for (int time = 0; time < times; time++) {
            String[] sides = call.split(" = ");
            int answer = ask(sides[0]);
            if (sides.length == 2) book.is(sides[0], calls.size(), answer, Call.number(sides[1].trim()));
        }
    }

    private void put(String[] things) {
        for (String thing : things) {
            String[] parts = thing.split("[x/]");
            int times = parts.length == 3 ? Integer.parseInt(parts[0]) : 1;
            for (int time = 0; time < times; time++) {
                ask("add " + parts[parts.length - 2] + " " + parts[parts.length - 1]);
            }
        }
    }

    /** Empties the text and types another one. */
    Run text(String text) {
        ask("clearText");
        return type(text);
    }

    Run type(String text) {
        for (int place = 0; place < text.length(); place++) {
            ask("type " + (int) text.charAt(place));
        }
        return this;
    }

    int ask(String call) {
        Call next = Call.of(call);
        calls.add(next);
        if (calls.size() > MOST_CALLS) throw new IllegalStateException("more than 512 calls: the last is " + call);
        return next.on(sums);
    }

    Run is(String call, int want) {
        int answer = ask(call);
        book.is(call, calls.size(), answer, want);
        return this;
    }

    List<Call> calls() {
        return List.copyOf(calls);
    }
}
