/** The ranges of the arguments: each number that is out of range, at each place, and the least and greatest that are in. */
public final class RangesTest {
    /** In it each call of CALLS is fine as it stands. */
    private static final String[] WORLD = {
        "lend 2 3 2 1 = 0", "text l0>0:0/1 = 8", "perform = NOT_POSSIBLE",
    };

    /**
     * A call, its answer, and the kind of each argument: an agent, a cell, parts, a value, a loan,
     * "." for one that cannot be wrong, or a digit for a what and the greatest that there is.
     */
    private static final String[][] CALLS = {
        {"lend 0 1 0 1", "1", "aacp"}, {"half 0 1 0", "32", "aac"}, {"giveBack 0", "64", "l"}, {"gather 0 0", "NONE", "ac"},
        {"gather 2 2", "64", "ac"}, {"hold 0 0 yes", "0", "ac."}, {"hold 0 0 no", "NONE", "ac."}, {"write 0 0 5", "1", "acv"},
        {"read 0 0", "0", "ac"}, {"claim 0 0 yes", "1", "ac."}, {"claim 0 0 no", "NONE", "ac."}, {"serve 0", "NOT_POSSIBLE", "c"},
        {"handOver 0 1", "0", "ca"}, {"handOver 0 0", "NONE", "ca"}, {"stop 0", "0", "1"}, {"cell 0 0", "0", "c8"},
        {"part 0 0 0", "64", "ac5"}, {"loan 0 0", "2", "l4"}, {"reason 0 0", "0", "ac"}, {"chain 0", "0", "c"},
        {"count 0", "1", "8"},
    };

    /** The last ones come back into the range when they are multiplied, or shifted by, or cut to fewer bits. */
    private static final String[] NO_AGENT_OR_CELL = {
        "least", "-6", "-2", "-1", "6", "7", "greatest", "32", "35", "64", "256", "65536", "715827883", "-715827882", "1431655766", "-2147483645",
    };

    private RangesTest() {
    }

    public static void main(String[] args) {
        for (String[] call : CALLS) {
            inWorld("it is fine as it stands", call[0], call[1]);
            for (int place = 0; place < call[2].length(); place++) {
                outOfRange(call[0], place, call[2].charAt(place));
            }
        }
        everyAgentAndCell();
        everyPart();
        everyWhat();
        everyLoan();
        Due.end();
    }

    private static void inWorld(String what, String call, String due) {
        Calls object = new Calls(LentParts.class);
        Script.play("the world", object, WORLD);
        Script.play(what, object, call + " = " + due);
    }

    private static void outOfRange(String call, int place, char kind) {
        switch (kind) {
            case 'a': each("an agent is 0 to 5", call, place, "UNKNOWN", NO_AGENT_OR_CELL); break;
            case 'c': each("a cell is 0 to 5", call, place, "UNKNOWN", NO_AGENT_OR_CELL); break;
            case 'p': each("parts are 1 to 64", call, place, "BAD_VALUE", "least", "-1", "0", "65", "128", "greatest"); break;
            case 'v': each("a value is 0 to 999", call, place, "BAD_VALUE", "least", "-1", "1000", "1001", "66535", "greatest"); break;
            case 'l': each("a loan that stands", call, place, "UNKNOWN", "least", "-1", "1", "39", "40", "999", "1000", "65536", "greatest"); break;
            case '.': break;
            default:
                String above = "" + (char) (kind + 1);
                each("a what is 0 to " + kind, call, place, "BAD_VALUE", "least", "-1", above, "10", "32", "256", "65536", "greatest");
        }
    }

    private static void each(String what, String call, int place, String due, String... numbers) {
        for (String number : numbers) {
            String[] words = call.split(" ");
            words[place + 1] = number;
            inWorld(what, String.join(" ", words), due);
        }
    }

    /** Each one from 0 to 5 is there, at each place where one is named. */
    private static void everyAgentAndCell() {
        for (int i = 0; i < 6; i++) {
            int next = (i + 1) % 6;
            Script.run("each agent and cell is there, " + i,
                "lend " + i + " " + next + " " + i + " 10 = 0", "half " + i + " " + next + " " + i + " = 27",
                "gather " + i + " " + i + " = 64", "hold " + i + " " + i + " yes = 0", "part " + i + " " + i + " 3 = 1",
                "hold " + i + " " + i + " no = 0", "write " + i + " " + i + " 7 = 1", "read " + i + " " + i + " = 7",
                "claim " + i + " " + i + " yes = 1", "serve " + i + " = " + i, "cell " + i + " 2 = " + i, "reason " + i + " " + i + " = 0",
                "lend " + i + " " + next + " " + i + " 64 = 2", "chain " + i + " = 1", "giveBack 2 = 64",
                "handOver " + i + " " + next + " = " + i, "handOver " + i + " " + i + " = " + next);
        }
    }

    private static void everyPart() {
        for (int parts = 1; parts <= 64; parts++) {
            Script.run("parts are 1 to 64, " + parts,
                "lend 4 5 4 " + parts + " = 0", "part 5 4 0 = " + parts, "loan 0 3 = " + parts, "part 4 4 0 = " + (64 - parts));
        }
    }

    private static void everyWhat() {
        Script.run("each what of cell()",
            "cell 5 0 = 0", "cell 5 1 = 0", "cell 5 2 = 5", "cell 5 3 = 1", "cell 5 4 = 0", "cell 5 5 = NONE", "cell 5 6 = 0",
            "cell 5 7 = 5", "cell 5 8 = 0", "cell 5 9 = BAD_VALUE");
        Script.run("each what of part()",
            "part 5 5 0 = 64", "part 5 5 1 = 0", "part 5 5 2 = 0", "part 5 5 3 = 0", "part 5 5 4 = NONE", "part 5 5 5 = 64",
            "part 5 5 6 = BAD_VALUE");
        Script.run("each what of loan()",
            "lend 5 4 5 3 = 0", "loan 0 0 = 5", "loan 0 1 = 4", "loan 0 2 = 5", "loan 0 3 = 3", "loan 0 4 = 1", "loan 0 5 = BAD_VALUE");
        Script.run("each what of count()",
            "count 0 = 0", "count 1 = 0", "count 2 = 6", "count 3 = 0", "count 4 = 0", "count 5 = 0", "count 6 = 0", "count 7 = 0",
            "count 8 = 0", "count 9 = BAD_VALUE");
        Script.run("each what of stop()",
            "text g0:0,b8 = 7", "perform = NOT_POSSIBLE", "stop -1 = BAD_VALUE", "stop 0 = 1", "stop 1 = UNKNOWN", "stop 2 = BAD_VALUE");
    }

    /** Forty loans: each number from 0 to 39 is one, and none beside them. */
    private static void everyLoan() {
        Calls object = new Calls(LentParts.class);
        Script.play("a loan", object, "lend 0 1 0 1 = 0..39", "loan -1 3 = UNKNOWN", "loan 40 3 = UNKNOWN", "giveBack 40 = UNKNOWN");
        for (int loan = 0; loan < 40; loan++) {
            Script.play("a loan", object, "loan " + loan + " 3 = 1", "giveBack " + loan + " = " + (25 + loan),
                "loan " + loan + " 3 = UNKNOWN", "giveBack " + loan + " = UNKNOWN");
        }
    }
}
