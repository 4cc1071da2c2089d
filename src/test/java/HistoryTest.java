/** Promises 16 to 18: undo, keep, restore. */
public final class HistoryTest {
    private HistoryTest() {
    }

    public static void main(String[] args) {
        undo();
        undoOfEachAct();
        notActs();
        snapshot();
        Due.end();
    }

    private static void undo() {
        Script.run("promise 16",
            "undo = NONE", "write 0 0 1 = 1", "write 0 0 2 = 2", "write 0 0 3 = 3", "write 0 0 4 = 4", "write 0 0 5 = 5",
            "write 0 0 6 = 6", "count 7 = 4", "undo = 3", "cell 0 0 = 5", "cell 0 1 = 5", "undo = 2", "cell 0 0 = 4",
            "write 0 0 9 = 5", "count 7 = 3", "undo = 2", "undo = 1", "cell 0 0 = 3", "undo = 0", "cell 0 0 = 2",
            "count 4 = 2", "undo = NONE", "cell 0 0 = 2", "count 7 = 0", "write 0 0 8 = 3", "undo = 0", "cell 0 0 = 2");
    }

    private static void undoOfEachAct() {
        Script.run("promise 16, each act",
            "lend 0 1 0 10 = 0", "undo = 0", "count 1 = 0", "part 0 0 0 = 64", "loan 0 0 = UNKNOWN",
            "half 0 1 0 = 32", "undo = 0", "part 1 0 0 = 0",
            "lend 0 1 0 10 = 0", "giveBack 0 = 64", "undo = 1", "loan 0 3 = 10", "count 5 = 0",
            "gather 0 0 = 64", "undo = 1", "part 1 0 0 = 10", "count 5 = 0",
            "hold 1 0 yes = 0", "undo = 1", "part 1 0 3 = 0", "hold 1 0 yes = 0", "hold 1 0 no = 0", "undo = 2",
            "part 1 0 3 = 1", "undo = 1", "write 1 1 5 = 1", "undo = 1", "cell 1 0 = 0", "cell 1 1 = 0", "count 4 = 0",
            "claim 2 0 yes = 1", "undo = 1", "cell 0 4 = 0", "claim 2 0 yes = 1", "claim 3 0 yes = 2", "claim 2 0 no = 1",
            "undo = 3", "part 2 0 4 = 0", "part 3 0 4 = 1", "serve 0 = 2", "undo = 3", "cell 0 5 = 2", "part 1 0 0 = 10",
            "count 1 = 1", "handOver 1 4 = 1", "undo = 3", "cell 1 2 = 1", "part 1 1 0 = 64",
            "text w1:1=7,w2:2=7 = 13", "perform = 2", "undo = 3", "cell 1 0 = 0", "cell 2 0 = 0", "count 8 = 13");
    }

    private static void notActs() {
        Script.run("promise 16, what is no act or no success is not recorded",
            "write 0 0 1 = 1", "read 0 0 = 1", "type 108 = 1", "clearText = 1", "stop 0 = NONE", "keep = 0", "cell 0 0 = 1",
            "part 0 0 5 = 64", "reason 0 0 = 0", "chain 0 = 0", "loan 0 0 = UNKNOWN", "lend 0 0 0 1 = BAD_VALUE",
            "half 1 0 0 = NOT_POSSIBLE", "giveBack 0 = UNKNOWN", "gather 0 0 = NONE", "hold 0 0 no = NONE",
            "write 1 0 1 = NOT_POSSIBLE", "claim 0 0 no = NONE", "serve 0 = NOT_POSSIBLE", "handOver 0 0 = NONE",
            "perform = -100", "count 7 = 1", "undo = 0", "cell 0 0 = 0");
        Script.run("promise 16, part 5 and reason leave the state as it is",
            "lend 0 1 0 10 = 0", "part 0 0 5 = 64", "reason 0 0 = 0", "part 0 0 0 = 54", "count 0 = 1", "count 5 = 0");
    }

    private static void snapshot() {
        Script.run("promises 17 and 18",
            "restore = NONE", "lend 0 1 0 10 = 0", "lend 0 1 0 10 = 1", "keep = 2", "count 7 = 2", "giveBack 0 = 54",
            "write 2 2 5 = 1", "claim 3 0 yes = 1", "hold 4 4 yes = 0", "handOver 5 1 = 5", "restore = 2", "count 7 = 4",
            "loan 0 3 = 10", "cell 2 0 = 0", "cell 0 4 = 0", "cell 4 8 = 0", "cell 5 2 = 5", "count 5 = 0", "count 4 = 0",
            "undo = 3", "cell 5 2 = 1", "count 5 = 1", "restore = 2", "restore = 2", "count 7 = 4", "gather 0 0 = 64",
            "keep = 0", "undo = 3", "count 0 = 2", "restore = 0", "count 5 = 2", "lend 0 1 0 1 = 2", "undo = 3",
            "undo = 2", "count 0 = 2");
        Script.run("promise 18, the snapshot stays as it was",
            "keep = 0", "lend 0 1 0 10 = 0", "restore = 0", "lend 0 1 0 20 = 0", "restore = 0", "part 0 0 0 = 64",
            "count 1 = 0", "undo = 3", "part 1 0 0 = 20", "undo = 2", "part 1 0 0 = 0", "undo = 1", "part 1 0 0 = 10");
    }
}
