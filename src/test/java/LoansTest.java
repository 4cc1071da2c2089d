import java.util.ArrayList;
import java.util.List;

/** Promises 1 to 5: a new object, lend, half, giveBack, gather. */
public final class LoansTest {
    private LoansTest() {
    }

    public static void main(String[] args) {
        newObject();
        lend();
        half();
        giveBack();
        gatherPlain();
        gatherOrder();
        gatherHeld();
        gatherBusy();
        noRoom();
        Due.end();
    }

    private static void newObject() {
        List<String> lines = new ArrayList<>();
        for (int cell = 0; cell < 6; cell++) {
            lines.add("cell " + cell + " 0 = 0");
            lines.add("cell " + cell + " 1 = 0");
            lines.add("cell " + cell + " 2 = " + cell);
            lines.add("cell " + cell + " 7 = " + cell);
            for (int agent = 0; agent < 6; agent++) {
                lines.add("part " + agent + " " + cell + " 0 = " + (agent == cell ? 64 : 0));
            }
        }
        for (int what = 0; what < 9; what++) {
            lines.add("count " + what + " = " + (what == 2 ? 6 : 0));
        }
        lines.add("undo = NONE");
        lines.add("restore = NONE");
        lines.add("stop 0 = NONE");
        lines.add("loan 0 0 = UNKNOWN");
        Script.run("promise 1", lines.toArray(new String[0]));
    }

    private static void lend() {
        Script.run("promise 2, ordinary",
            "lend 0 1 0 10 = 0", "lend 0 1 0 10 = 1", "lend 1 5 0 20 = 2", "lend 3 2 3 64 = 3",
            "part 0 0 0 = 44", "part 1 0 0 = 0", "part 5 0 0 = 20", "part 2 3 0 = 64",
            "count 0 = 4", "count 7 = 4", "giveBack 2 = 20", "lend 0 2 0 1 = 4");
        Script.run("promise 2, what is wrong",
            "lend -1 1 0 1 = UNKNOWN", "lend 6 1 0 1 = UNKNOWN", "lend 0 -1 0 1 = UNKNOWN",
            "lend 0 6 0 1 = UNKNOWN", "lend 0 1 -1 1 = UNKNOWN", "lend 0 1 6 1 = UNKNOWN",
            "lend 0 1 6 0 = UNKNOWN", "lend 6 6 0 0 = UNKNOWN", "lend 2147483647 1 0 1 = UNKNOWN",
            "lend 0 -2147483648 0 1 = UNKNOWN", "lend 0 1 2147483647 1 = UNKNOWN",
            "lend 0 1 0 0 = BAD_VALUE", "lend 0 1 0 65 = BAD_VALUE", "lend 0 1 0 -1 = BAD_VALUE",
            "lend 0 0 0 1 = BAD_VALUE", "lend 1 1 0 1 = BAD_VALUE", "lend 1 2 0 65 = BAD_VALUE",
            "lend 1 2 0 1 = NOT_POSSIBLE", "lend 0 1 0 1 = 0", "lend 0 1 0 64 = NOT_POSSIBLE",
            "lend 1 2 0 2 = NOT_POSSIBLE", "lend 0 1 0 63 = 1", "lend 0 1 0 1 = NOT_POSSIBLE",
            "count 1 = 2", "count 7 = 2");
        Script.run("promise 2, holding on",
            "hold 0 0 yes = 0", "lend 0 1 0 1 = NOT_POSSIBLE", "lend 0 0 0 1 = BAD_VALUE", "half 0 1 0 = NOT_POSSIBLE",
            "hold 1 1 yes = 0", "hold 0 0 no = 0", "lend 0 1 0 1 = 0", "hold 1 0 yes = 0",
            "lend 0 1 0 1 = 1", "lend 1 0 0 1 = NOT_POSSIBLE", "lend 2 1 2 1 = 2");
    }

    private static void half() {
        Script.run("promise 3",
            "half 0 1 0 = 32", "half 0 2 0 = 16", "half 0 3 0 = 8", "half 0 4 0 = 4", "half 0 5 0 = 2",
            "half 0 1 0 = 1", "half 0 1 0 = NOT_POSSIBLE", "part 0 0 0 = 1", "part 1 0 0 = 33",
            "half 1 0 0 = 16", "part 1 0 0 = 17", "loan 6 3 = 16", "loan 6 0 = 1", "loan 6 1 = 0", "loan 6 2 = 0",
            "half 2 0 1 = NOT_POSSIBLE", "half 0 0 0 = BAD_VALUE", "half 3 3 1 = BAD_VALUE",
            "half 6 6 0 = UNKNOWN", "half -1 0 0 = UNKNOWN", "half 0 6 0 = UNKNOWN", "half 0 -1 0 = UNKNOWN",
            "half 0 1 6 = UNKNOWN", "half 0 1 -1 = UNKNOWN", "count 0 = 7", "count 7 = 4",
            "lend 0 1 0 14 = 7", "part 0 0 0 = 3", "half 0 1 0 = 1", "part 0 0 0 = 2", "half 0 1 0 = 1");
    }

    private static void giveBack() {
        Script.run("promise 4",
            "lend 0 1 0 10 = 0", "lend 1 2 0 4 = 1", "giveBack 0 = NOT_POSSIBLE", "giveBack 1 = 10",
            "giveBack 1 = UNKNOWN", "lend 0 1 0 5 = 2", "hold 1 0 yes = 0", "giveBack 0 = NOT_POSSIBLE",
            "hold 1 0 no = 0", "hold 0 0 yes = 0", "giveBack 0 = 59", "part 1 0 0 = 5", "giveBack 2 = 64",
            "giveBack 3 = UNKNOWN", "giveBack -1 = UNKNOWN", "giveBack 40 = UNKNOWN", "giveBack 1000 = UNKNOWN",
            "giveBack 2147483647 = UNKNOWN", "giveBack -2147483648 = UNKNOWN", "count 5 = 3", "count 0 = 0", "count 1 = 3");
        Script.run("promise 4, any parts will do",
            "lend 0 1 0 10 = 0", "lend 0 2 0 20 = 1", "lend 2 1 0 10 = 2", "lend 1 3 0 5 = 3",
            "giveBack 0 = 44", "part 1 0 0 = 5", "giveBack 2 = NOT_POSSIBLE", "count 7 = 4");
    }

    private static void gatherPlain() {
        Script.run("promise 5",
            "gather 0 0 = NONE", "count 7 = 0", "lend 0 1 0 10 = 0", "lend 0 2 0 20 = 1", "lend 0 2 0 4 = 2",
            "lend 1 2 1 7 = 3", "gather 1 0 = NONE", "gather 0 0 = 64", "count 5 = 3", "part 2 0 0 = 0",
            "loan 3 3 = 7", "gather 0 1 = NONE", "gather 1 1 = 64", "count 7 = 4",
            "gather 6 0 = UNKNOWN", "gather -1 0 = UNKNOWN", "gather 0 6 = UNKNOWN", "gather 0 -1 = UNKNOWN",
            "gather 2147483647 -2147483648 = UNKNOWN");
        Script.run("promise 5, through others",
            "lend 0 1 0 40 = 0", "lend 1 2 0 40 = 1", "lend 2 3 0 40 = 2", "lend 3 4 0 40 = 3", "lend 4 5 0 40 = 4",
            "gather 5 0 = NONE", "gather 3 0 = 40", "count 5 = 2", "gather 0 0 = 64", "count 5 = 5");
        Script.run("promise 5, of one who borrowed",
            "lend 0 1 0 40 = 0", "lend 1 2 0 30 = 1", "gather 1 0 = 40", "part 0 0 0 = 24", "loan 0 3 = 40");
    }

    private static void gatherOrder() {
        Script.run("promise 5, the latest first",
            "lend 0 1 0 5 = 0", "lend 0 1 0 6 = 1", "lend 1 2 0 4 = 2", "hold 2 0 yes = 0",
            "gather 0 0 = 59", "loan 0 3 = 5", "loan 1 0 = UNKNOWN", "part 1 0 0 = 1", "gather 0 0 = NONE");
        Script.run("promise 5, who holds enough does not gather",
            "lend 0 1 0 20 = 0", "lend 0 3 0 10 = 1", "lend 3 1 0 10 = 2", "lend 1 2 0 5 = 3",
            "gather 3 0 = 10", "loan 3 0 = 1", "loan 1 0 = 0", "part 1 0 0 = 15", "gather 0 0 = 64", "count 0 = 0");
        Script.run("promise 5, as many parts as the loan has are enough",
            "lend 0 1 0 20 = 0", "lend 0 1 0 10 = 1", "lend 1 2 0 10 = 2", "lend 2 3 0 10 = 3", "lend 3 2 0 10 = 4",
            "hold 2 0 yes = 0", "gather 0 0 = 44", "loan 0 3 = 20", "loan 1 3 = UNKNOWN", "loan 3 3 = 10", "count 5 = 1");
    }

    private static void gatherHeld() {
        Script.run("promise 5, one who holds on gathers",
            "lend 0 1 0 10 = 0", "lend 1 2 0 4 = 1", "hold 1 0 yes = 0", "gather 0 0 = 54",
            "part 1 0 0 = 10", "count 5 = 1", "gather 0 0 = NONE", "gather 1 0 = NONE",
            "hold 1 0 no = 0", "hold 0 0 yes = 0", "gather 0 0 = 64");
        Script.run("promise 5, what is gathered stays",
            "lend 0 1 0 30 = 0", "lend 1 2 0 10 = 1", "lend 1 3 0 10 = 2", "hold 2 0 yes = 0",
            "gather 0 0 = 34", "part 1 0 0 = 20", "part 3 0 0 = 0", "count 5 = 1");
    }

    private static void gatherBusy() {
        Script.run("promise 5, one who gathers gives back",
            "lend 0 1 0 30 = 0", "lend 1 0 0 30 = 1", "part 1 0 5 = 30", "gather 0 0 = 64", "count 5 = 2", "count 0 = 0");
        Script.run("promise 5, one who gathers does not gather once more",
            "lend 0 2 0 40 = 0", "lend 0 1 0 24 = 1", "lend 1 0 0 24 = 2", "lend 0 3 0 24 = 3", "hold 3 0 yes = 0",
            "gather 0 0 = 40", "count 5 = 1", "loan 1 3 = 24", "loan 2 3 = 24", "part 1 0 0 = 0", "reason 0 0 = 1",
            "gather 0 0 = 40", "part 0 0 1 = 24", "loan 3 3 = 24", "count 5 = 3", "gather 0 0 = NONE");
        Script.run("promise 5, in rings",
            "lend 0 1 0 64 = 0", "lend 1 2 0 64 = 1", "lend 2 0 0 64 = 2", "lend 0 1 0 64 = 3",
            "gather 2 0 = 64", "count 5 = 2", "part 2 0 0 = 64", "gather 0 0 = 64", "count 0 = 0");
    }

    private static void noRoom() {
        List<String> lines = new ArrayList<>();
        for (int loan = 0; loan < 40; loan++) {
            lines.add("lend 0 1 0 1 = " + loan);
        }
        lines.add("lend 0 1 0 1 = FULL");
        lines.add("lend 0 1 0 25 = NOT_POSSIBLE");
        lines.add("lend 0 1 0 65 = BAD_VALUE");
        lines.add("half 0 1 0 = FULL");
        lines.add("half 2 1 0 = NOT_POSSIBLE");
        lines.add("half 1 1 0 = BAD_VALUE");
        lines.add("lend 5 1 5 64 = FULL");
        lines.add("count 0 = 40");
        lines.add("part 0 0 0 = 24");
        lines.add("giveBack 7 = 25");
        lines.add("half 0 1 0 = 12");
        lines.add("loan 40 3 = 12");
        lines.add("half 0 1 0 = FULL");
        lines.add("gather 0 0 = 64");
        lines.add("count 0 = 0");
        lines.add("count 1 = 41");
        lines.add("lend 0 1 0 1 = 41");
        Script.run("promises 2 and 3, no room", lines.toArray(new String[0]));
    }
}
