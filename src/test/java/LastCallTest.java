/** "An object is used for at most 512 calls after it has been made": the 512th one is answered as due, of each kind. */
public final class LastCallTest {
    private static final String[] WORLD = {
        "text l4>3:4/7,g4:4 = 13", "lend 0 1 0 20 = 0", "lend 1 2 0 5 = 1", "write 2 2 8 = 1", "claim 4 3 yes = 1", "keep = 2",
        "lend 0 3 0 4 = 2",
    };

    /** The last call, and its answer behind the world and as many acts as there is room for. */
    private static final String[][] LAST = {
        {"lend 0 1 0 40", "3"}, {"lend 0 1 0 41", "NOT_POSSIBLE"}, {"half 0 1 0", "20"}, {"giveBack 1", "20"}, {"giveBack 0", "NOT_POSSIBLE"},
        {"gather 0 0", "64"}, {"gather 2 0", "NONE"}, {"hold 2 0 yes", "0"}, {"hold 2 0 no", "NONE"}, {"write 2 2 999", "2"},
        {"write 0 0 1", "NOT_POSSIBLE"}, {"read 2 2", "8"}, {"claim 2 3 yes", "2"}, {"serve 3", "4"}, {"handOver 2 0", "2"}, {"handOver 0 1", "NOT_POSSIBLE"},
        {"type 44", "14"}, {"clearText", "13"}, {"perform", "2"}, {"stop 0", "NONE"}, {"undo", "3"}, {"keep", "3"}, {"restore", "2"}, {"cell 0 6", "3"},
        {"part 0 0 5", "64"}, {"loan 2 3", "4"}, {"reason 0 0", "0"}, {"reason 1 0", "2"}, {"chain 0", "2"}, {"count 7", "4"}, {"count 1", "3"},
    };

    private LastCallTest() {
    }

    public static void main(String[] args) {
        for (String[] last : LAST) {
            lastOf(last[0], last[1]);
        }
        ofOneKind();
        Due.end();
    }

    private static void lastOf(String call, String due) {
        Calls object = new Calls(LentParts.class);
        Script.play("the world", object, WORLD);
        for (int turn = 0; object.made() < Script.MOST_CALLS - 1; turn++) {
            Script.play("call " + (object.made() + 1), object, "hold 5 5 " + (turn % 2 == 0 ? "yes" : "no") + " = 0");
        }
        Script.play("the last call", object, call + " = " + due);
        Due.is("calls made", object.made(), Script.MOST_CALLS);
    }

    private static void ofOneKind() {
        Script.run("512 writes", "write 3 3 999 = 1..512");
        Script.run("512 loans, and the room for 40 of them", "lend 0 1 0 1 = 0..39", "lend 0 1 0 1 = FULL times 472");
        Script.run("512 characters, and the room for 60 of them", "type 103 = 1..60", "type 103 = FULL times 452");
        Script.run("512 times nothing to undo", "undo = NONE times 512");
        Script.run("512 times nothing to restore", "restore = NONE times 512");
        Script.run("512 times the snapshot", "keep = 0", "restore = 0 times 510", "count 7 = 4");
        Script.run("512 times the same loan", "text l0>1:0/64,g0:0 = 14", "perform = 2 times 495", "count 1 = 495", "count 5 = 495");
        Script.run("512 times a stop", "text b0 = 2", "perform = NOT_POSSIBLE times 508", "stop 1 = UNKNOWN");
    }
}
