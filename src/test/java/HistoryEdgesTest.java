/** The edges of "HISTORY" and of promises 16 to 18, a run for each sentence. */
public final class HistoryEdgesTest {
    private HistoryEdgesTest() {
    }

    public static void main(String[] args) {
        fourStates();
        undo();
        whatIsRecorded();
        snapshot();
        whatIsNoState();
        Due.end();
    }

    private static void fourStates() {
        Script.run("a history of at most 4 states is kept",
            "count 7 = 0", "write 0 0 1 = 1", "count 7 = 1", "write 0 0 2 = 2", "count 7 = 2", "write 0 0 3 = 3", "count 7 = 3", "write 0 0 4 = 4",
            "count 7 = 4", "undo = 3..0", "cell 0 0 = 0", "undo = NONE");
        Script.run("when one more is recorded, the oldest one is dropped",
            "write 0 0 1 = 1", "write 0 0 2 = 2", "write 0 0 3 = 3", "write 0 0 4 = 4", "write 0 0 5 = 5", "count 7 = 4", "undo = 3..0",
            "cell 0 0 = 1", "undo = NONE", "cell 0 0 = 1", "count 7 = 0");
        Script.run("two more drop the two oldest ones",
            "write 0 0 1 = 1", "write 0 0 2 = 2", "write 0 0 3 = 3", "write 0 0 4 = 4", "write 0 0 5 = 5", "write 0 0 6 = 6", "undo = 3",
            "cell 0 0 = 5", "undo = 2", "cell 0 0 = 4", "undo = 1", "cell 0 0 = 3", "undo = 0", "cell 0 0 = 2", "undo = NONE", "cell 0 0 = 2");
        Script.run("what was dropped does not come back when there is room again",
            "write 0 0 1 = 1..6", "undo = 3..0", "cell 0 1 = 2", "write 0 0 9 = 3", "count 7 = 1", "undo = 0", "undo = NONE", "cell 0 1 = 2");
        Script.run("many acts, and undone ones between them",
            "write 0 0 1 = 1..9", "undo = 3..2", "write 0 0 1 = 8..9", "count 7 = 4", "write 0 0 1 = 10", "undo = 3..0", "cell 0 1 = 6",
            "undo = NONE", "write 0 0 1 = 7..30", "undo = 3..0", "cell 0 1 = 26");
    }

    private static void undo() {
        Script.run("undo: NONE if the history is empty", "undo = NONE", "undo = NONE", "write 0 0 1 = 1", "undo = 0", "undo = NONE", "cell 0 1 = 0");
        Script.run("undo returns the number of states that are left", "write 0 0 1 = 1..3", "undo = 2", "undo = 1", "undo = 0");
        Script.run("undo is no act: it is not undone by the next one",
            "write 0 0 1 = 1", "write 0 0 2 = 2", "undo = 1", "count 7 = 1", "undo = 0", "cell 0 0 = 0", "cell 0 1 = 0");
    }

    private static void recorded(String call, String... ahead) {
        Calls object = new Calls(LentParts.class);
        Script.play("ahead of " + call, object, ahead);
        int states = object.call("count", 7);
        Script.play("an act is recorded", object, call, "count 7 = " + Math.min(4, states + 1), "undo = " + Math.min(3, states));
    }

    private static void whatIsRecorded() {
        recorded("lend 0 1 0 1 = 0");
        recorded("half 0 1 0 = 32");
        recorded("giveBack 0 = 64", "lend 0 1 0 1 = 0");
        recorded("gather 0 0 = 64", "lend 0 1 0 1 = 0");
        recorded("gather 0 0 = 0", "lend 0 1 0 64 = 0", "lend 1 2 0 1 = 1", "hold 1 0 yes = 0");
        recorded("hold 0 0 yes = 0");
        recorded("hold 0 0 no = 0", "hold 0 0 yes = 0");
        recorded("write 0 0 0 = 1");
        recorded("claim 0 0 yes = 1");
        recorded("claim 0 0 no = 0", "claim 0 0 yes = 1");
        recorded("serve 0 = 0", "claim 0 0 yes = 1");
        recorded("serve 0 = 3", "claim 3 0 yes = 1");
        recorded("serve 0 = 9", "claim 3 0 yes = 1", "lend 0 1 0 1 = 0", "hold 0 0 yes = 0");
        recorded("handOver 0 1 = 0");
        recorded("perform = 1", "text w0:0=0 = 6");
        recorded("perform = 1", "text g0:0 = 4");
        recorded("restore = 0", "keep = 0");
        recorded("restore = 1", "lend 0 1 0 1 = 0", "keep = 1");
        Script.run("what is no act is not recorded",
            "read 0 0 = 0", "type 98 = 1", "type 48 = 2", "clearText = 2", "clearText = 0", "stop 0 = NONE", "undo = NONE", "keep = 0", "keep = 0",
            "cell 0 7 = 0", "part 0 0 5 = 64", "loan 0 0 = UNKNOWN", "reason 0 0 = 0", "chain 0 = 0", "count 7 = 0");
        Script.run("an act that returns an error or NONE is not recorded",
            "lend 0 1 0 65 = BAD_VALUE", "half 1 0 0 = NOT_POSSIBLE", "giveBack 0 = UNKNOWN", "gather 0 0 = NONE", "hold 1 0 yes = NOT_POSSIBLE",
            "hold 1 0 no = NONE", "write 1 0 0 = NOT_POSSIBLE", "claim 1 0 no = NONE", "serve 0 = NOT_POSSIBLE", "handOver 0 0 = NONE",
            "perform = -100", "text b0 = 2", "perform = NOT_POSSIBLE", "restore = NONE", "count 7 = 0");
    }

    private static void snapshot() {
        Script.run("there is one snapshot, empty at first", "restore = NONE", "keep = 0", "restore = 0");
        Script.run("keep: a snapshot in place of the one that was",
            "write 0 0 1 = 1", "keep = 0", "lend 0 1 0 5 = 0", "keep = 1", "lend 0 1 0 5 = 1", "write 2 2 2 = 1", "restore = 1", "loan 0 3 = 5",
            "cell 2 0 = 0", "cell 0 0 = 1", "undo = 3", "restore = 1");
        Script.run("restore: the snapshot stays, whatever is done to the state behind it",
            "keep = 0", "lend 0 1 0 5 = 0", "restore = 0", "lend 0 1 0 6 = 0", "lend 0 1 0 7 = 1", "restore = 0", "count 1 = 0", "restore = 0",
            "count 7 = 4");
        Script.run("a snapshot of 40 loans, and of none",
            "lend 0 1 0 1 = 0..39", "keep = 40", "gather 0 0 = 64", "restore = 40", "lend 2 3 2 1 = FULL", "giveBack 39 = 25", "gather 0 0 = 64",
            "keep = 0", "undo = 3", "count 0 = 39", "restore = 0", "count 0 = 0", "count 5 = 40", "lend 0 1 0 1 = 40");
        Script.run("restore is an act: it is undone", "keep = 0", "write 0 0 5 = 1", "restore = 0", "cell 0 0 = 0", "undo = 1", "cell 0 0 = 5", "undo = 0",
            "cell 0 0 = 0");
        Script.run("a snapshot bears undo", "write 0 0 5 = 1", "keep = 0", "undo = 0", "cell 0 0 = 0", "restore = 0", "cell 0 0 = 5", "undo = 0",
            "cell 0 0 = 0");
    }

    private static void whatIsNoState() {
        Script.run("the text is not of the state: undo and restore leave it",
            "text w0:0=1 = 6", "keep = 0", "perform = 1", "text b7 = 2", "undo = 0", "count 8 = 2", "clearText = 2", "restore = 0", "count 8 = 0",
            "text g0:0 = 4", "undo = 0", "perform = 1");
        Script.run("the history is not of the state: restore leaves it, and records",
            "write 0 0 1 = 1", "keep = 0", "write 0 0 2 = 2", "restore = 0", "count 7 = 3", "undo = 2", "undo = 1", "count 7 = 1", "restore = 0",
            "count 7 = 2");
        Script.run("the snapshot is not of the state: undo leaves it",
            "write 0 0 1 = 1", "keep = 0", "undo = 0", "restore = 0", "cell 0 0 = 1", "undo = 0", "restore = 0");
        Script.run("the latest stop is not of the state: undo and restore leave it",
            "write 0 0 1 = 1", "keep = 0", "text g0:0,b3 = 7", "perform = NOT_POSSIBLE", "undo = 0", "stop 0 = 1", "stop 1 = UNKNOWN", "restore = 0",
            "stop 0 = 1", "stop 1 = UNKNOWN");
        for (int cell = 0; cell < 6; cell++) {
            ofEachCell(cell);
        }
        Script.run("a state has six claims of a cell, in their order",
            "claim 5 5 yes = 1", "claim 4 5 yes = 2", "claim 3 5 yes = 3", "claim 2 5 yes = 4", "claim 1 5 yes = 5", "claim 0 5 yes = 6", "keep = 0",
            "claim 5 5 no = 5", "undo = 3", "part 5 5 4 = 0", "part 0 5 4 = 5", "claim 0 5 no = 5", "claim 4 5 no = 4", "restore = 0", "cell 5 5 = 5",
            "part 4 5 4 = 1", "part 3 5 4 = 2", "part 2 5 4 = 3", "part 1 5 4 = 4", "part 0 5 4 = 5");
        Script.run("all the rest is of the state: what was made, written and given back, too",
            "lend 0 1 0 5 = 0", "lend 0 1 0 5 = 1", "keep = 2", "giveBack 0 = 59", "write 3 3 8 = 1", "lend 0 2 0 1 = 2", "restore = 2", "count 1 = 2",
            "count 4 = 0", "count 5 = 0", "lend 0 2 0 1 = 2", "undo = 3", "undo = 2", "count 1 = 3", "count 4 = 1", "count 5 = 1");
    }

    /** All that a state has of a cell, brought back by undo and by restore. */
    private static void ofEachCell(int cell) {
        int next = (cell + 1) % 6;
        int third = (cell + 2) % 6;
        String own = cell + " " + cell;
        String[] lines = {
            "write " + own + " 7 = 1", "claim " + third + " " + cell + " yes = 1", "claim " + next + " " + cell + " yes = 2",
            "claim " + own + " yes = 3", "keep = 0", "write " + own + " 8 = 2", "undo = 3", "cell " + cell + " 0 = 7", "cell " + cell + " 1 = 1",
            "hold " + own + " yes = 7", "undo = 3", "part " + own + " 3 = 0", "handOver " + cell + " " + next + " = " + cell, "undo = 3",
            "cell " + cell + " 2 = " + cell, "part " + own + " 0 = 64", "part " + next + " " + cell + " 0 = 0",
            "claim " + third + " " + cell + " no = 2", "undo = 3", "part " + third + " " + cell + " 4 = 0", "part " + next + " " + cell + " 4 = 1",
            "part " + own + " 4 = 2", "claim " + next + " " + cell + " no = 2", "claim " + third + " " + cell + " no = 1",
            "handOver " + cell + " " + third + " = " + cell, "write " + third + " " + cell + " 9 = 2", "half " + third + " " + next + " " + cell + " = 32",
            "hold " + next + " " + cell + " yes = 9", "restore = 0", "cell " + cell + " 0 = 7", "cell " + cell + " 1 = 1", "cell " + cell + " 2 = " + cell,
            "cell " + cell + " 3 = 1", "cell " + cell + " 4 = 3", "cell " + cell + " 5 = " + third, "cell " + cell + " 6 = 0", "cell " + cell + " 7 = " + cell,
            "cell " + cell + " 8 = 0", "part " + third + " " + cell + " 4 = 0", "part " + next + " " + cell + " 4 = 1", "part " + own + " 4 = 2",
            "undo = 3", "cell " + cell + " 0 = 9", "cell " + cell + " 2 = " + third, "cell " + cell + " 4 = 1", "cell " + cell + " 5 = " + cell,
            "part " + next + " " + cell + " 0 = 32", "part " + next + " " + cell + " 3 = 1",
        };
        Script.run("a state has all of cell " + cell, lines);
    }
}
