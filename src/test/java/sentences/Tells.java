import java.util.ArrayList;
import java.util.Arrays;
import java.util.List;

/** All that an object tells after a run of calls. The run is done again for it, so that asking changes nothing. */
final class Tells {
    private static final List<Call> QUESTIONS = questions();
    private static final int HISTORY = 15;
    private static final int LENGTH = 16;

    private Tells() {
    }

    private static List<Call> questions() {
        List<Call> all = new ArrayList<>();
        for (int what = 0; what <= 17; what++) all.add(new Call("count", what, 0, 0));
        for (int thing = 0; thing < 12; thing++) {
            for (int what = 0; what < 5; what++) all.add(new Call("thing", thing, what, 0));
        }
        for (int node : new int[] {0, 1, 2, 3, 4, 5, 6, 7, 395, 396, 397, 398, 399}) {
            for (int what = 0; what < 8; what++) all.add(new Call("node", node, what, 0));
            for (int choice = 0; choice < 3; choice++) all.add(new Call("branchOf", node, choice, 0));
        }
        for (int[] sets : new int[][] {{0, 0}, {1, 0}, {2, 0}, {3, 0}, {0, 1}, {0, 3}, {4, 1}}) {
            all.add(new Call("boundOf", sets[0], sets[1], 0));
            all.add(new Call("heelOf", sets[0], sets[1], 0));
        }
        all.add(new Call("next", 0, 0, 0));
        all.add(new Call("bestSum", 0, 0, 0));
        return all;
    }

    /** What is told behind these calls. Where so many stand ahead that 512 would not do, a part is asked. */
    static int[] behind(List<Call> calls, String... further) {
        BranchedSums sums = new BranchedSums();
        for (Call call : calls) call.on(sums);
        for (String call : further) Call.of(call).on(sums);
        int most = Math.min(QUESTIONS.size(), 512 - calls.size() - further.length);
        int[] answers = new int[most];
        for (int place = 0; place < most; place++) answers[place] = QUESTIONS.get(place).on(sums);
        return answers;
    }

    /** Also what lies in the history, in the snapshot and in the text, and how many states and characters there are. */
    static int[][] deeply(List<Call> calls) {
        return new int[][] {behind(calls), behind(calls, "undo"), behind(calls, "undo", "undo"),
            behind(calls, "undo", "undo", "undo"), behind(calls, "undo", "undo", "undo", "undo"),
            behind(calls, "restore"), behind(calls, "addAll"), behind(calls, "giveUp", "addAll"),
            behind(calls, "giveUp", "setRoom 7", "remove 0", "remove 0", "remove 0", "remove 0", "addAll")};
    }

    /** The state alone: without the history, the text and the snapshot. */
    static int[] state(List<Call> calls, String... further) {
        int[] answers = behind(calls, further);
        answers[HISTORY] = 0;
        answers[LENGTH] = 0;
        return answers;
    }

    static boolean same(int[] some, int[] others) {
        int most = Math.min(some.length, others.length);
        return most > LENGTH && Arrays.equals(Arrays.copyOf(some, most), Arrays.copyOf(others, most));
    }

    static boolean same(int[][] some, int[][] others) {
        for (int place = 0; place < some.length; place++) {
            if (!same(some[place], others[place])) return false;
        }
        return true;
    }
}
