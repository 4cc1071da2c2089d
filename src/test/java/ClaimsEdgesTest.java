/** The edges of "CLAIMS" and of promises 9 to 11, a run for each sentence. */
public final class ClaimsEdgesTest {
    private ClaimsEdgesTest() {
    }

    public static void main(String[] args) {
        claims();
        whoIsGranted();
        nothingGranted();
        roomForTheWhole();
        handingOver();
        Due.end();
    }

    private static void claims() {
        Script.run("claims stand in their order",
            "claim 5 0 yes = 1", "claim 0 0 yes = 2", "claim 3 0 yes = 3", "part 5 0 4 = 0", "part 0 0 4 = 1", "part 3 0 4 = 2", "cell 0 5 = 5",
            "claim 5 0 no = 2", "cell 0 5 = 0", "part 3 0 4 = 1", "part 5 0 4 = NONE", "claim 5 0 yes = 3", "part 5 0 4 = 2", "claim 3 0 no = 2",
            "part 0 0 4 = 0", "part 5 0 4 = 1");
        Script.run("at most one of an agent for a cell",
            "claim 3 0 yes = 1", "claim 4 0 yes = 2", "claim 3 0 yes = NONE", "part 3 0 4 = 0", "cell 0 4 = 2", "claim 3 1 yes = 1", "claim 3 0 no = 1",
            "claim 3 0 no = NONE", "cell 1 4 = 1", "count 3 = 2");
        Script.run("six claims for a cell, of all agents, are the most, for each of the six cells",
            "claim 0 5 yes = 1", "claim 1 5 yes = 2", "claim 2 5 yes = 3", "claim 3 5 yes = 4", "claim 4 5 yes = 5", "claim 5 5 yes = 6",
            "claim 5 5 yes = NONE", "claim 0 5 yes = NONE", "claim 5 0 yes = 1", "part 5 5 4 = 5", "cell 5 4 = 6", "cell 0 5 = 5", "claim 0 5 no = 5",
            "claim 0 5 yes = 6", "cell 5 5 = 1", "part 0 5 4 = 5", "part 5 5 4 = 4", "claim 0 5 no = 5", "part 5 5 4 = 4", "claim 4 5 no = 4",
            "part 5 5 4 = 3", "count 3 = 5");
        everyClaim();
        Script.run("claim: NONE if it is so already",
            "claim 0 0 no = NONE", "claim 0 0 yes = 1", "claim 0 0 yes = NONE", "claim 0 0 no = 0", "claim 0 0 no = NONE", "count 7 = 2");
        Script.run("who holds no part can claim, and so can who holds the whole, or holds on",
            "claim 1 0 yes = 1", "hold 0 0 yes = 0", "claim 0 0 yes = 2", "lend 2 3 2 64 = 0", "claim 3 2 yes = 1", "claim 2 2 yes = 2");
    }

    private static void everyClaim() {
        Calls object = new Calls(LentParts.class);
        for (int cell = 0; cell < 6; cell++) {
            for (int place = 0; place < 6; place++) {
                int agent = (cell + place * 5) % 6;
                Script.play("claims of all agents for all cells", object, "claim " + agent + " " + cell + " yes = " + (place + 1));
            }
        }
        Script.play("claims of all agents for all cells", object, "count 3 = 36", "claim 0 0 yes = NONE", "claim 5 5 yes = NONE");
        for (int cell = 0; cell < 6; cell++) {
            for (int place = 0; place < 6; place++) {
                int agent = (cell + place * 5) % 6;
                Script.play("claims of all agents for all cells", object, "part " + agent + " " + cell + " 4 = " + place);
            }
        }
    }

    private static void whoIsGranted() {
        Script.run("the first claim is granted: it is removed, and the whole is lent to its agent",
            "claim 3 0 yes = 1", "claim 4 0 yes = 2", "serve 0 = 3", "part 3 0 0 = 64", "part 3 0 4 = NONE", "cell 0 5 = 4", "loan 0 0 = 0",
            "loan 0 1 = 3", "loan 0 2 = 0", "loan 0 3 = 64", "cell 0 2 = 0", "write 3 0 1 = 1");
        Script.run("unless this is the owner: then no loan is made",
            "claim 0 0 yes = 1", "lend 0 1 0 5 = 0", "serve 0 = 0", "count 1 = 1", "count 5 = 1", "part 0 0 0 = 64", "cell 0 4 = 0", "count 7 = 3",
            "undo = 2", "cell 0 4 = 1", "part 1 0 0 = 5");
        Script.run("its owner gathers it, also from the one that is granted then, and once more",
            "claim 1 0 yes = 1", "lend 0 1 0 64 = 0", "lend 1 2 0 30 = 1", "serve 0 = 1", "count 5 = 2", "loan 2 1 = 1", "loan 2 3 = 64",
            "claim 1 0 yes = 1", "serve 0 = 1", "loan 3 3 = 64", "count 0 = 1");
        Script.run("the owner gathers, not the agent with the cell's number",
            "handOver 0 2 = 0", "lend 2 0 0 64 = 0", "lend 0 1 0 64 = 1", "claim 0 0 yes = 1", "serve 0 = 0", "loan 2 0 = 2", "loan 2 1 = 0",
            "claim 2 0 yes = 1", "serve 0 = 2", "count 0 = 0");
        Script.run("one claim is granted by a call, the last one too",
            "claim 5 5 yes = 1", "claim 0 5 yes = 2", "serve 5 = 5", "cell 5 4 = 1", "serve 5 = 0", "cell 5 4 = 0", "serve 5 = NOT_POSSIBLE");
        Script.run("NOT_POSSIBLE if it has no claims, whatever could be gathered",
            "lend 0 1 0 10 = 0", "claim 1 1 yes = 1", "serve 0 = NOT_POSSIBLE", "part 1 0 0 = 10", "claim 2 0 yes = 1", "claim 2 0 no = 0",
            "serve 0 = NOT_POSSIBLE", "count 5 = 0");
    }

    private static void nothingGranted() {
        Script.run("if the first claim cannot be granted, nothing of the gathering is undone: 9",
            "claim 3 0 yes = 1", "lend 0 1 0 10 = 0", "lend 0 2 0 10 = 1", "hold 1 0 yes = 0", "serve 0 = 9", "part 2 0 0 = 0", "part 1 0 0 = 10",
            "part 0 0 0 = 54", "cell 0 4 = 1", "count 5 = 1", "count 7 = 4", "undo = 3", "part 2 0 0 = 10", "cell 0 4 = 1");
        Script.run("9 also if only a loan further down was given back",
            "claim 3 0 yes = 1", "lend 0 1 0 64 = 0", "lend 1 2 0 10 = 1", "hold 1 0 yes = 0", "serve 0 = 9", "part 1 0 0 = 64", "serve 0 = NONE");
        Script.run("the owner holds the whole but holds on: 9 if any loan was given back, otherwise NONE",
            "claim 0 0 yes = 1", "claim 3 0 yes = 2", "lend 0 1 0 10 = 0", "hold 0 0 yes = 0", "serve 0 = 9", "part 0 0 0 = 64", "cell 0 4 = 2",
            "count 7 = 4", "serve 0 = NONE", "count 7 = 4", "hold 0 0 no = 0", "serve 0 = 0", "serve 0 = 3");
        Script.run("NONE if none is granted and no loan was given back",
            "claim 3 0 yes = 1", "lend 0 1 0 10 = 0", "hold 1 0 yes = 0", "count 7 = 3", "serve 0 = NONE", "count 7 = 3", "cell 0 4 = 1",
            "hold 1 0 no = 0", "serve 0 = 3");
        Script.run("the first claim alone is looked at: the owner's own one behind it waits",
            "claim 3 0 yes = 1", "claim 0 0 yes = 2", "hold 0 0 yes = 0", "serve 0 = NONE", "cell 0 5 = 3", "hold 0 0 no = 0", "serve 0 = 3",
            "cell 0 5 = 0");
        Script.run("a claim of one that holds on to its part is not granted either",
            "claim 3 0 yes = 1", "lend 0 3 0 1 = 0", "hold 3 0 yes = 0", "serve 0 = NONE", "hold 3 0 no = 0", "serve 0 = 3", "part 3 0 0 = 64");
    }

    private static void roomForTheWhole() {
        Script.run("FULL by the loans that stand behind the gathering: 40 of other cells",
            "lend 1 2 1 1 = 0..39", "claim 3 0 yes = 1", "serve 0 = FULL", "cell 0 4 = 1", "part 0 0 0 = 64", "count 0 = 40", "giveBack 0 = 25",
            "serve 0 = 3", "count 0 = 40");
        Script.run("not FULL if one of the 40 is given back by the gathering",
            "lend 1 2 1 1 = 0..38", "lend 0 1 0 1 = 39", "claim 3 0 yes = 1", "lend 1 2 1 1 = FULL", "serve 0 = 3", "loan 40 3 = 64", "count 0 = 40",
            "count 5 = 1", "claim 3 0 yes = 1", "serve 0 = 3", "count 0 = 40");
        Script.run("FULL only if the whole would have to be lent: not for the owner",
            "lend 1 2 1 1 = 0..39", "claim 0 0 yes = 1", "claim 3 0 yes = 2", "serve 0 = 0", "serve 0 = FULL", "count 1 = 40");
        Script.run("FULL only if the whole would have to be lent: not if it is not got",
            "lend 1 2 1 1 = 0..38", "lend 0 1 0 1 = 39", "claim 3 0 yes = 1", "hold 1 0 yes = 0", "serve 0 = NONE", "claim 5 4 yes = 1",
            "hold 4 4 yes = 0", "serve 4 = NONE", "hold 4 4 no = 0", "serve 4 = FULL");
    }

    private static void handingOver() {
        Script.run("the other one is the owner then, and holds the whole",
            "write 0 0 7 = 1", "claim 2 0 yes = 1", "handOver 0 5 = 0", "cell 0 2 = 5", "part 5 0 0 = 64", "part 0 0 0 = 0", "read 5 0 = 7",
            "read 0 0 = NOT_POSSIBLE", "cell 0 1 = 1", "part 2 0 4 = 0", "count 1 = 0", "lend 5 0 0 1 = 0", "cell 5 2 = 5");
        Script.run("one can own all cells, or none",
            "handOver 0 3 = 0", "handOver 1 3 = 1", "handOver 2 3 = 2", "handOver 4 3 = 4", "handOver 5 3 = 5", "handOver 3 0 = 3", "handOver 3 3 = 0",
            "cell 0 2 = 3", "cell 5 7 = 3", "count 2 = 6", "write 3 5 9 = 1");
        Script.run("handOver: NOT_POSSIBLE if any loan of it stands: of one part, and until the last is given back",
            "lend 0 1 0 1 = 0", "lend 1 2 0 1 = 1", "handOver 0 1 = NOT_POSSIBLE", "giveBack 1 = 1", "handOver 0 1 = NOT_POSSIBLE", "giveBack 0 = 64",
            "handOver 0 1 = 0");
        Script.run("handOver: NOT_POSSIBLE also if its owner holds the whole while loans stand",
            "lend 0 1 0 64 = 0", "lend 1 0 0 64 = 1", "cell 0 7 = 0", "handOver 0 1 = NOT_POSSIBLE", "handOver 0 0 = NOT_POSSIBLE", "gather 0 0 = 64",
            "handOver 0 1 = 0");
        Script.run("handOver: loans of other cells hinder nothing", "lend 1 0 1 64 = 0", "lend 2 1 2 5 = 1", "handOver 0 2 = 0", "handOver 1 2 = NOT_POSSIBLE");
        Script.run("handOver: NOT_POSSIBLE if its owner holds on to it; to others it may",
            "hold 0 0 yes = 0", "hold 1 1 yes = 0", "handOver 0 1 = NOT_POSSIBLE", "handOver 0 0 = NOT_POSSIBLE", "hold 0 0 no = 0", "handOver 0 1 = 0",
            "handOver 1 0 = NOT_POSSIBLE", "hold 1 0 yes = 0", "handOver 0 2 = NOT_POSSIBLE", "hold 1 0 no = 0", "handOver 0 2 = 1");
        Script.run("handOver: NONE if to is its owner, and nothing is recorded",
            "handOver 0 0 = NONE", "count 7 = 0", "handOver 0 1 = 0", "handOver 0 1 = NONE", "count 7 = 1", "handOver 0 0 = 1");
        Script.run("handOver to the first agent, from the first agent: 0 is an agent like the others",
            "handOver 5 0 = 5", "cell 5 2 = 0", "count 7 = 1", "handOver 5 4 = 0", "count 7 = 2", "undo = 1", "cell 5 2 = 0", "undo = 0", "cell 5 2 = 5");
    }
}
