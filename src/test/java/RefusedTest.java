import java.util.ArrayList;
import java.util.List;

/** "A call that returns an error or NONE changes nothing (but for the latest stop of perform())." */
public final class RefusedTest {
    /** Four states in the history, a snapshot, a text, a stop, claims, readers, and loans that hang on others. */
    private static final String[] WORLD = {
        "text b7 = 2", "perform = NOT_POSSIBLE", "write 0 0 17 = 1", "lend 0 1 0 30 = 0", "lend 1 2 0 20 = 1", "claim 4 0 yes = 1",
        "keep = 2", "lend 3 4 3 64 = 2", "lend 1 2 0 5 = 3", "lend 0 5 0 4 = 4", "giveBack 4 = 34", "claim 1 0 yes = 2", "claim 1 5 yes = 1",
        "hold 2 0 yes = 17", "hold 0 0 yes = 17", "hold 5 5 yes = 0", "claim 0 1 yes = 1",
    };
    private static final String[] TEXTS = {"text w1:1=5 = 6", "text w1:1=5,b1 = 9", "text w1:1=5; = 7", "text = 0"};

    private static final String[] FULL_WORLD = {
        "write 0 0 17 = 1", "lend 0 1 0 1 = 0..4", "lend 0 1 0 1 = 5..38", "half 3 4 3 = 32", "keep = 40", "claim 4 1 yes = 1",
        "hold 2 2 yes = 0", "hold 1 0 yes = 17",
    };

    /** What is seen of an object in the end: as it is, and behind undo, restore, perform or another act. */
    private static final String[][] PATHS = {
        {}, {"undo"}, {"undo", "undo"}, {"undo", "undo", "undo"}, {"undo", "undo", "undo", "undo", "undo"}, {"restore"}, {"perform"},
        {"hold 5 5 no", "undo", "undo"}, {"lend 4 5 4 1", "clearText"},
    };

    private RefusedTest() {
    }

    public static void main(String[] args) {
        for (String text : TEXTS) {
            refusedIn(with(text), errors());
            refusedIn(with(text), nones());
        }
        refusedIn(with(TEXTS[1]), new String[] {"stop 2 = BAD_VALUE", "stop -1 = BAD_VALUE"});
        refusedIn(with(TEXTS[2]), new String[] {"perform = -106"});
        refusedIn(with(TEXTS[3]), new String[] {"perform = -100"});
        refusedIn(FULL_WORLD, full());
        stopped();
        fullText();
        noSnapshot();
        Due.end();
    }

    private static String[] with(String last) {
        String[] lines = new String[WORLD.length + 1];
        System.arraycopy(WORLD, 0, lines, 0, WORLD.length);
        lines[WORLD.length] = last;
        return lines;
    }

    private static String[] errors() {
        return new String[] {
            "lend 6 1 0 1 = UNKNOWN", "lend 0 1 0 65 = BAD_VALUE", "lend 2 2 0 1 = BAD_VALUE", "lend 1 2 0 6 = NOT_POSSIBLE",
            "lend 0 1 0 1 = NOT_POSSIBLE", "half 0 6 0 = UNKNOWN", "half 1 1 0 = BAD_VALUE", "half 4 1 0 = NOT_POSSIBLE",
            "half 2 1 0 = NOT_POSSIBLE", "giveBack 4 = UNKNOWN", "giveBack 0 = NOT_POSSIBLE", "giveBack 1 = NOT_POSSIBLE",
            "gather 6 0 = UNKNOWN", "gather 0 6 = UNKNOWN", "hold 6 0 yes = UNKNOWN", "hold 4 0 yes = NOT_POSSIBLE",
            "write 0 6 1 = UNKNOWN", "write 1 1 1000 = BAD_VALUE", "write 0 0 1 = NOT_POSSIBLE", "read 6 0 = UNKNOWN",
            "read 5 0 = NOT_POSSIBLE", "claim 6 0 yes = UNKNOWN", "claim 0 6 no = UNKNOWN", "serve 6 = UNKNOWN", "serve 4 = NOT_POSSIBLE",
            "handOver 6 0 = UNKNOWN", "handOver 1 6 = UNKNOWN", "handOver 0 1 = NOT_POSSIBLE", "handOver 5 1 = NOT_POSSIBLE",
            "cell 6 0 = UNKNOWN", "cell 0 9 = BAD_VALUE", "part 6 0 0 = UNKNOWN", "part 0 0 6 = BAD_VALUE", "loan 4 0 = UNKNOWN",
            "loan 0 5 = BAD_VALUE", "reason 6 0 = UNKNOWN", "chain 6 = UNKNOWN", "count 9 = BAD_VALUE",
        };
    }

    /** Also calls that only tell, which are refused nothing, and change nothing. */
    private static String[] nones() {
        return new String[] {
            "gather 0 0 = NONE", "gather 1 0 = NONE", "gather 4 4 = NONE", "hold 2 0 yes = NONE", "hold 1 0 no = NONE",
            "claim 4 0 yes = NONE", "claim 2 0 no = NONE", "serve 0 = NONE", "serve 5 = NONE", "handOver 1 1 = NONE",
            "cell 1 5 = 0", "cell 4 5 = NONE", "cell 0 7 = NONE", "part 2 0 4 = NONE", "part 0 0 5 = 34", "part 3 3 5 = 64",
            "reason 3 3 = 0", "reason 0 0 = 1", "chain 0 = 2", "read 0 0 = 17", "stop 1 = UNKNOWN", "count 7 = 4",
        };
    }

    private static String[] full() {
        return new String[] {
            "lend 0 1 0 1 = FULL", "half 0 1 0 = FULL", "serve 1 = FULL", "lend 1 0 0 1 = NOT_POSSIBLE", "half 2 1 2 = NOT_POSSIBLE",
        };
    }

    /** Each refused call is made on one of two objects that are alike; both must be alike then. */
    private static void refusedIn(String[] world, String[] calls) {
        List<List<Integer>> due = new ArrayList<>();
        for (String[] path : PATHS) {
            due.add(seen(made(world), path));
        }
        for (String call : calls) {
            for (int path = 0; path < PATHS.length; path++) {
                Calls object = made(world);
                Script.play("refused", object, call);
                List<Integer> got = seen(object, PATHS[path]);
                Due.holds("nothing is changed by " + call + ", seen behind " + String.join(", ", PATHS[path]), due.get(path).equals(got));
                Due.holds("at most 512 calls", object.made() <= Script.MOST_CALLS);
            }
        }
    }

    private static Calls made(String[] world) {
        Calls object = new Calls(LentParts.class);
        Script.play("the world", object, world);
        return object;
    }

    private static List<Integer> seen(Calls object, String[] path) {
        List<Integer> answers = new ArrayList<>();
        for (String call : path) {
            answers.add(Script.answer(object, call));
        }
        for (int cell = 0; cell < 6; cell++) {
            for (int what = 0; what < 9; what++) {
                answers.add(object.call("cell", cell, what));
            }
            for (int agent = 0; agent < 6; agent++) {
                for (int what = 0; what < 6; what++) {
                    answers.add(object.call("part", agent, cell, what));
                }
            }
        }
        for (int what = 0; what < 9; what++) {
            answers.add(object.call("count", what));
        }
        for (int loan = 0; loan < 41; loan++) {
            answers.add(object.call("loan", loan, 1));
            answers.add(object.call("loan", loan, 3));
        }
        answers.add(object.call("stop", 0));
        answers.add(object.call("stop", 1));
        return answers;
    }

    /** A perform() that is stopped changes the latest stop, and nothing else. */
    private static void stopped() {
        String[] world = with("text w1:1=5,w1:1=6,l1>2:1/20,g0:0,b2,w2:2=7,w0:0=1 = 45");
        for (String[] path : PATHS) {
            List<Integer> due = seen(made(world), path);
            Calls object = made(world);
            Script.play("stopped", object, "perform = NOT_POSSIBLE", "stop 0 = 6", "stop 1 = NOT_POSSIBLE");
            List<Integer> got = seen(object, path);
            int states = due.size() - 2;
            boolean performs = String.join(",", path).equals("perform");
            Due.holds("all but the stop is as it was, seen behind " + String.join(", ", path), due.subList(0, states).equals(got.subList(0, states)));
            Due.is("the number of the act", got.get(states), 6);
            Due.is("its error", got.get(states + 1), LentParts.NOT_POSSIBLE);
            Due.is("the number of the act that was stopped ahead", due.get(states), performs ? 6 : 0);
        }
        Script.run("a perform() with a fault leaves the latest stop as it was",
            "text g0:0,b7 = 7", "perform = NOT_POSSIBLE", "text b7,b = 4", "perform = -104", "stop 0 = 1", "stop 1 = UNKNOWN");
    }

    private static void fullText() {
        Script.run("a character that is refused is not typed",
            "text w0:0=1,w0:0=2,w0:0=3,w0:0=44,w0:0=55,w0:0=66,w0:0=77,w0:0=88 = 60", "type 57 = FULL", "count 8 = 60", "type 44 = FULL",
            "perform = 8", "cell 0 0 = 88", "clearText = 60");
    }

    private static void noSnapshot() {
        Script.run("restore() without a snapshot, and undo() without a history, change nothing",
            "text b0 = 2", "restore = NONE", "undo = NONE", "count 7 = 0", "write 0 0 5 = 1", "restore = NONE", "count 7 = 1",
            "cell 0 0 = 5", "count 8 = 2", "undo = 0", "undo = NONE", "restore = NONE", "cell 0 0 = 0", "count 8 = 2", "keep = 0", "restore = 0");
    }
}
