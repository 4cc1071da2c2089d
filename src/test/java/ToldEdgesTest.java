/** The edges of promises 19 to 24, a run for each sentence. */
public final class ToldEdgesTest {
    private ToldEdgesTest() {
    }

    public static void main(String[] args) {
        cell();
        part();
        loan();
        chain();
        count();
        Due.end();
    }

    private static void cell() {
        Script.run("cell 3: how many agents hold any part, 1 to 6",
            "cell 0 3 = 1", "lend 0 1 0 64 = 0", "cell 0 3 = 1", "lend 1 2 0 1 = 1", "cell 0 3 = 2", "lend 1 0 0 1 = 2", "lend 1 3 0 1 = 3",
            "lend 1 4 0 1 = 4", "cell 0 3 = 5", "lend 1 5 0 1 = 5", "cell 0 3 = 6", "lend 1 5 0 59 = 6", "cell 0 3 = 5", "cell 1 3 = 1");
        Script.run("cell 4 and 5: its claims, and the agent of its first one",
            "cell 3 4 = 0", "cell 3 5 = NONE", "claim 0 3 yes = 1", "cell 3 4 = 1", "cell 3 5 = 0", "claim 5 3 yes = 2", "cell 3 5 = 0",
            "claim 0 3 no = 1", "cell 3 5 = 5", "claim 5 3 no = 0", "cell 3 5 = NONE", "cell 2 5 = NONE");
        Script.run("cell 6: its loans, 0 to 40",
            "cell 0 6 = 0", "lend 0 1 0 1 = 0..38", "cell 0 6 = 39", "lend 1 0 1 1 = 39", "cell 0 6 = 39", "cell 1 6 = 1", "giveBack 39 = 64",
            "lend 0 1 0 1 = 40", "cell 0 6 = 40", "cell 1 6 = 0", "gather 0 0 = 64", "cell 0 6 = 0");
        Script.run("cell 7: the agent who holds the whole, NONE if none does",
            "cell 0 7 = 0", "lend 0 5 0 63 = 0", "cell 0 7 = NONE", "lend 0 5 0 1 = 1", "cell 0 7 = 5", "lend 5 4 0 1 = 2", "cell 0 7 = NONE",
            "lend 5 0 0 63 = 3", "lend 4 0 0 1 = 4", "cell 0 7 = 0", "cell 5 7 = 5");
        Script.run("cell 8: how many agents hold on to it",
            "cell 0 8 = 0", "hold 0 0 yes = 0", "cell 0 8 = 1", "cell 1 8 = 0", "hold 0 0 no = 0", "cell 0 8 = 0", "lend 0 1 0 1 = 0",
            "hold 0 0 yes = 0", "hold 1 0 yes = 0", "cell 0 8 = 2");
    }

    private static void part() {
        Script.run("part 0: 0 to 64", "part 0 0 0 = 64", "part 1 0 0 = 0", "lend 0 1 0 64 = 0", "part 0 0 0 = 0", "part 1 0 0 = 64", "part 1 1 0 = 64");
        Script.run("part 1 and 2 can be more than 64: loans stand while parts come back by others",
            "lend 0 1 0 64 = 0", "lend 1 0 0 64 = 1", "lend 0 1 0 64 = 2", "part 0 0 1 = 128", "part 0 0 2 = 64", "part 1 0 1 = 64", "part 1 0 2 = 128",
            "part 0 0 0 = 0", "part 1 0 0 = 64");
        Script.run("part 1 and 2: of loans that stand, of this agent and this cell",
            "part 0 0 1 = 0", "part 0 0 2 = 0", "lend 0 1 0 5 = 0", "lend 0 2 0 7 = 1", "lend 2 1 0 3 = 2", "lend 1 0 1 9 = 3", "part 0 0 1 = 12",
            "part 1 0 2 = 8", "part 2 0 1 = 3", "part 2 0 2 = 7", "part 0 1 2 = 9", "part 0 0 2 = 0", "part 1 0 1 = 0", "giveBack 0 = 57",
            "part 0 0 1 = 7", "part 1 0 2 = 3");
        Script.run("part 3: whether it holds on, 1, otherwise 0",
            "part 0 0 3 = 0", "hold 0 0 yes = 0", "part 0 0 3 = 1", "part 1 0 3 = 0", "part 0 1 3 = 0", "hold 0 0 no = 0", "part 0 0 3 = 0");
        Script.run("part 4: the place of its claim, from 0, NONE without one",
            "part 0 0 4 = NONE", "claim 5 0 yes = 1", "claim 0 0 yes = 2", "part 5 0 4 = 0", "part 0 0 4 = 1", "part 0 5 4 = NONE", "serve 0 = 5",
            "part 5 0 4 = NONE", "part 0 0 4 = 0");
        Script.run("part 5: the parts that it would hold if it gathered",
            "part 0 0 5 = 64", "part 1 0 5 = 0", "lend 0 1 0 20 = 0", "lend 1 2 0 15 = 1", "part 0 0 5 = 64", "part 1 0 5 = 20", "part 2 0 5 = 15",
            "hold 2 0 yes = 0", "part 0 0 5 = 44", "part 1 0 5 = 5", "part 0 0 0 = 44", "count 5 = 0");
    }

    private static void loan() {
        Script.run("loan: of its lender, borrower, cell and parts, the least and the greatest",
            "lend 0 5 0 1 = 0", "lend 5 0 5 64 = 1", "loan 0 0 = 0", "loan 0 1 = 5", "loan 0 2 = 0", "loan 0 3 = 1", "loan 1 0 = 5", "loan 1 1 = 0",
            "loan 1 2 = 5", "loan 1 3 = 64");
        Script.run("loan 4: whether it can be given back now",
            "lend 0 1 0 5 = 0", "loan 0 4 = 1", "lend 1 2 0 1 = 1", "loan 0 4 = 0", "loan 1 4 = 1", "giveBack 1 = 5", "loan 0 4 = 1", "hold 1 0 yes = 0",
            "loan 0 4 = 0", "hold 0 0 yes = 0", "hold 1 0 no = 0", "loan 0 4 = 1");
        Script.run("loan: UNKNOWN as soon as it is given back, and known again when that is undone",
            "lend 0 1 0 5 = 0", "giveBack 0 = 64", "loan 0 0 = UNKNOWN", "undo = 1", "loan 0 3 = 5", "undo = 0", "loan 0 3 = UNKNOWN");
    }

    private static void chain() {
        Script.run("chain: 0 without a loan, 5 at most",
            "chain 5 = 0", "lend 5 4 5 64 = 0", "chain 5 = 1", "lend 4 3 5 64 = 1", "chain 5 = 2", "lend 3 2 5 64 = 2", "chain 5 = 3",
            "lend 2 1 5 64 = 3", "chain 5 = 4", "lend 1 0 5 64 = 4", "chain 5 = 5", "lend 0 5 5 64 = 5", "chain 5 = 5", "chain 4 = 0");
        Script.run("chain: none of whose agents, the first lender included, is in it twice",
            "lend 0 1 0 64 = 0", "lend 1 0 0 64 = 1", "chain 0 = 1", "lend 0 1 0 64 = 2", "chain 0 = 1", "lend 1 2 0 64 = 3", "chain 0 = 2",
            "lend 2 0 0 64 = 4", "chain 0 = 2", "lend 0 3 0 64 = 5", "chain 0 = 3");
        Script.run("chain: it need not begin with the owner, nor with the first loan",
            "lend 0 1 0 64 = 0", "lend 1 2 0 1 = 1", "lend 1 3 0 10 = 2", "lend 3 4 0 5 = 3", "lend 4 5 0 2 = 4", "giveBack 0 = NOT_POSSIBLE",
            "chain 0 = 4", "lend 0 2 0 1 = NOT_POSSIBLE", "lend 2 0 0 1 = 5", "lend 0 3 0 1 = 6", "lend 3 1 0 1 = 7", "chain 0 = 5");
        Script.run("chain: begun in the middle",
            "lend 0 1 0 10 = 0", "lend 0 2 0 10 = 1", "lend 2 3 0 10 = 2", "lend 3 1 0 10 = 3", "chain 0 = 3", "giveBack 3 = 10", "giveBack 2 = 10",
            "giveBack 1 = 54", "chain 0 = 1", "lend 1 4 0 10 = 4", "giveBack 0 = NOT_POSSIBLE", "chain 0 = 2", "lend 0 1 0 10 = 5", "giveBack 0 = 54",
            "giveBack 5 = NOT_POSSIBLE", "chain 0 = 2");
        Script.run("chain: of loans of this cell alone",
            "lend 0 1 0 10 = 0", "lend 1 2 1 10 = 1", "lend 2 3 2 10 = 2", "chain 0 = 1", "chain 1 = 1", "chain 2 = 1", "chain 3 = 0");
        Script.run("chain: which part is lent on does not count, so one whose first loan was given back may be left",
            "lend 0 1 0 10 = 0", "lend 0 1 0 10 = 1", "lend 1 2 0 10 = 2", "chain 0 = 2", "giveBack 1 = 54", "chain 0 = 2", "lend 3 1 3 5 = 3",
            "chain 3 = 1");
        Script.run("chain: forty loans side by side are one link each",
            "lend 0 1 0 1 = 0..7", "lend 1 2 0 1 = 8..15", "lend 2 3 0 1 = 16..23", "lend 3 4 0 1 = 24..31", "lend 4 5 0 1 = 32..39", "chain 0 = 5",
            "gather 2 0 = 8", "chain 0 = 2");
    }

    private static void count() {
        Script.run("count 0, 1 and 5: loans that stand, that were made, that were given back",
            "lend 0 1 0 1 = 0..39", "count 0 = 40", "count 1 = 40", "count 5 = 0", "gather 0 0 = 64", "count 0 = 0", "count 1 = 40", "count 5 = 40",
            "lend 0 1 0 1 = 40", "giveBack 40 = 64", "count 5 = 41", "claim 0 0 yes = 1", "claim 3 0 yes = 2", "lend 0 1 0 1 = 41", "serve 0 = 0",
            "count 5 = 42", "count 1 = 42", "serve 0 = 3", "count 1 = 43", "count 0 = 1");
        Script.run("count 2: cells that any one agent holds the whole of, 0 to 6",
            "count 2 = 6", "lend 0 1 0 64 = 0", "count 2 = 6", "lend 1 0 0 1 = 1", "count 2 = 5", "lend 1 0 1 1 = 2", "lend 2 0 2 1 = 3",
            "lend 3 0 3 1 = 4", "lend 4 0 4 1 = 5", "lend 5 0 5 1 = 6", "count 2 = 0", "giveBack 6 = 64", "count 2 = 1");
        Script.run("count 3: claims of all cells", "count 3 = 0", "claim 0 0 yes = 1", "claim 0 5 yes = 1", "count 3 = 2", "serve 5 = 0", "count 3 = 1",
            "claim 0 0 no = 0", "count 3 = 0");
        Script.run("count 4: writes so far, of all cells and agents",
            "count 4 = 0", "write 0 0 1 = 1", "write 5 5 1 = 1", "write 1 0 1 = NOT_POSSIBLE", "write 0 0 1000 = BAD_VALUE", "count 4 = 2",
            "text w0:0=1,w1:1=1 = 13", "perform = 2", "count 4 = 4", "undo = 2", "count 4 = 2");
        Script.run("count 6: pairs of an agent and a cell to which it holds on",
            "count 6 = 0", "hold 0 0 yes = 0", "lend 1 0 1 1 = 0", "hold 0 1 yes = 0", "hold 1 1 yes = 0", "count 6 = 3", "hold 0 1 no = 0", "count 6 = 2",
            "hold 0 1 no = NONE", "hold 2 0 yes = NOT_POSSIBLE", "count 6 = 2");
        everyPair();
        Script.run("count 7: the states in the history, 0 to 4",
            "count 7 = 0", "write 0 0 1 = 1", "count 7 = 1", "write 0 0 1 = 2..5", "count 7 = 4", "undo = 3", "count 7 = 3", "undo = 2..0", "count 7 = 0",
            "undo = NONE", "count 7 = 0");
        Script.run("count 8: the length of the text, 0 to 60",
            "count 8 = 0", "type 0 = 1", "count 8 = 1", "type 0 = 2..60", "count 8 = 60", "type 0 = FULL", "count 8 = 60", "clearText = 60", "count 8 = 0");
    }

    /** All agents hold on to all cells: 30 loans, and 36 pairs. */
    private static void everyPair() {
        Calls object = new Calls(LentParts.class);
        for (int cell = 0; cell < 6; cell++) {
            for (int agent = 0; agent < 6; agent++) {
                if (agent != cell) {
                    int loan = object.call("count", 0);
                    Script.play("every agent and cell", object, "lend " + cell + " " + agent + " " + cell + " 1 = " + loan);
                }
            }
        }
        for (int cell = 0; cell < 6; cell++) {
            for (int agent = 0; agent < 6; agent++) {
                Script.play("every agent and cell", object, "hold " + agent + " " + cell + " yes = 0", "count 6 = " + (cell * 6 + agent + 1));
            }
        }
        Script.play("every agent and cell", object, "gather 0 0 = NONE", "part 0 0 5 = 59", "reason 5 5 = 1", "lend 0 1 0 1 = NOT_POSSIBLE",
            "hold 5 5 no = 0", "count 6 = 35", "cell 5 8 = 5", "cell 0 8 = 6");
    }
}
