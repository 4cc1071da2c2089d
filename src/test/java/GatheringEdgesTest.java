/** The edges of "GATHERING" and of promises 5, 20 (what 5) and 22, a run for each sentence. */
public final class GatheringEdgesTest {
    private GatheringEdgesTest() {
    }

    public static void main(String[] args) {
        whichLoans();
        order();
        once();
        whoGathers();
        whoGivesBack();
        whatStays();
        whoIsGathering();
        answers();
        reasons();
        Due.end();
    }

    private static void whichLoans() {
        Script.run("the loans of this cell are gone through, and of no other one",
            "lend 0 1 0 10 = 0", "lend 1 0 1 64 = 1", "lend 0 2 1 30 = 2", "gather 0 0 = 64", "loan 2 3 = 30", "gather 0 1 = 64", "loan 1 3 = 64",
            "count 0 = 1");
        Script.run("that it lent: what it borrowed stays with it",
            "lend 0 1 0 40 = 0", "lend 1 2 0 10 = 1", "lend 0 3 0 10 = 2", "gather 1 0 = 40", "loan 0 3 = 40", "loan 2 3 = 10", "count 5 = 1");
        Script.run("all six agents in a row",
            "lend 3 2 3 64 = 0", "lend 2 1 3 64 = 1", "lend 1 0 3 64 = 2", "lend 0 5 3 64 = 3", "lend 5 4 3 64 = 4", "chain 3 = 5",
            "part 3 3 5 = 64", "gather 3 3 = 64", "count 5 = 5");
        Script.run("forty loans at once",
            "lend 0 1 0 1 = 0..19", "lend 1 2 0 1 = 20..39", "part 1 0 0 = 0", "gather 0 0 = 64", "count 0 = 0", "count 5 = 40");
    }

    private static void order() {
        Script.run("the latest first",
            "lend 0 1 0 5 = 0", "lend 0 1 0 6 = 1", "lend 1 2 0 5 = 2", "hold 2 0 yes = 0", "part 0 0 5 = 59", "gather 0 0 = 59", "loan 0 3 = 5",
            "loan 1 3 = UNKNOWN");
        Script.run("the latest first by the same rule, of one who has to gather",
            "lend 0 1 0 40 = 0", "lend 1 2 0 5 = 1", "lend 1 2 0 6 = 2", "lend 2 3 0 5 = 3", "hold 3 0 yes = 0", "gather 0 0 = 24",
            "part 1 0 0 = 35", "loan 1 3 = 5", "loan 2 3 = UNKNOWN", "loan 0 3 = 40");
        Script.run("the latest by its number, also if loans ahead of it were given back",
            "lend 0 1 0 5 = 0", "lend 0 3 0 9 = 1", "lend 0 1 0 6 = 2", "giveBack 1 = 53", "lend 0 1 0 7 = 3", "lend 1 2 0 10 = 4",
            "hold 2 0 yes = 0", "gather 0 0 = 53", "loan 3 3 = UNKNOWN", "loan 2 3 = 6", "loan 0 3 = 5", "part 1 0 0 = 1");
    }

    private static void once() {
        Script.run("each once: what could be given back only later waits for the next gathering",
            "lend 0 2 0 40 = 0", "lend 0 1 0 24 = 1", "lend 1 0 0 24 = 2", "lend 0 3 0 24 = 3", "hold 3 0 yes = 0", "part 0 0 5 = 40",
            "gather 0 0 = 40", "count 5 = 1", "loan 1 3 = 24", "gather 0 0 = 40", "count 5 = 3", "gather 0 0 = NONE");
    }

    private static void whoGathers() {
        Script.run("the borrower gathers if it holds fewer parts than the loan has: as many are enough",
            "lend 0 3 0 10 = 0", "lend 3 1 0 10 = 1", "lend 0 1 0 10 = 2", "lend 1 2 0 10 = 3", "gather 3 0 = 10", "part 2 0 0 = 10",
            "part 1 0 0 = 0", "count 5 = 1");
        Script.run("the borrower gathers if it holds fewer parts than the loan has: one fewer",
            "lend 0 3 0 10 = 0", "lend 3 1 0 10 = 1", "lend 0 1 0 10 = 2", "lend 1 2 0 11 = 3", "gather 3 0 = 10", "part 2 0 0 = 0",
            "part 1 0 0 = 10", "count 5 = 2");
        Script.run("also one that holds on gathers, and does not give back",
            "lend 0 1 0 10 = 0", "lend 1 2 0 4 = 1", "hold 1 0 yes = 0", "gather 0 0 = 54", "part 1 0 0 = 10", "part 2 0 0 = 0", "loan 0 3 = 10",
            "loan 1 3 = UNKNOWN");
        Script.run("one that holds on gathers also with no parts of its loan left but one",
            "lend 0 1 0 64 = 0", "lend 1 2 0 63 = 1", "hold 1 0 yes = 0", "gather 0 0 = 0", "part 1 0 0 = 64", "gather 0 0 = NONE");
        Script.run("who gathers may hold on itself",
            "lend 0 1 0 10 = 0", "lend 1 2 0 10 = 1", "hold 0 0 yes = 0", "gather 0 0 = 64", "hold 3 3 yes = 0", "lend 0 3 0 1 = NOT_POSSIBLE");
    }

    private static void whoGivesBack() {
        Script.run("then it gives the loan back, if it can: not if it did not gather enough",
            "lend 0 1 0 30 = 0", "lend 1 2 0 10 = 1", "lend 1 3 0 10 = 2", "hold 2 0 yes = 0", "gather 0 0 = 34", "part 1 0 0 = 20", "loan 0 3 = 30",
            "loan 1 3 = 10", "loan 2 3 = UNKNOWN");
        Script.run("then it gives the loan back, if it can: not if it holds on, whatever it holds",
            "lend 0 1 0 30 = 0", "lend 0 1 0 30 = 1", "hold 1 0 yes = 0", "gather 0 0 = NONE", "part 1 0 0 = 60", "hold 1 0 no = 0",
            "gather 0 0 = 64");
        Script.run("to hold on to another cell hinders nothing",
            "lend 0 1 0 30 = 0", "hold 1 1 yes = 0", "hold 0 0 yes = 0", "gather 0 0 = 64");
        Script.run("also one that is gathering itself gives back",
            "lend 0 1 0 30 = 0", "lend 1 0 0 30 = 1", "part 0 0 5 = 64", "gather 0 0 = 64", "count 5 = 2", "count 0 = 0", "part 0 0 0 = 64");
        Script.run("but not if that one holds on",
            "lend 0 1 0 30 = 0", "lend 1 0 0 30 = 1", "hold 0 0 yes = 0", "gather 0 0 = NONE", "hold 0 0 no = 0", "gather 1 0 = 30", "part 0 0 0 = 34",
            "gather 0 0 = 64");
    }

    private static void whatStays() {
        Script.run("what is gathered stays so, also if it is not the whole in the end",
            "lend 0 1 0 20 = 0", "lend 0 2 0 20 = 1", "lend 0 3 0 20 = 2", "hold 2 0 yes = 0", "gather 0 0 = 44", "part 1 0 0 = 0", "part 2 0 0 = 20",
            "part 3 0 0 = 0", "count 5 = 2");
        Script.run("also if the one who gathers gets nothing of it",
            "lend 0 1 0 20 = 0", "lend 1 2 0 10 = 1", "lend 1 3 0 10 = 2", "hold 3 0 yes = 0", "gather 0 0 = 44", "part 1 0 0 = 10", "part 2 0 0 = 0",
            "gather 0 0 = NONE");
    }

    private static void whoIsGathering() {
        Script.run("an agent whose own gathering is not at its end yet does not gather once more",
            "lend 0 1 0 64 = 0", "lend 1 4 0 20 = 1", "lend 1 2 0 44 = 2", "lend 2 3 0 44 = 3", "lend 3 1 0 20 = 4", "lend 1 5 0 20 = 5",
            "hold 5 0 yes = 0", "part 1 0 5 = 20", "gather 1 0 = 20", "count 5 = 1", "part 3 0 0 = 24", "gather 1 0 = 44", "count 5 = 4",
            "gather 1 0 = NONE");
        Script.run("one whose gathering is at its end gathers once more, as its turn comes again",
            "lend 0 1 0 10 = 0", "lend 0 2 0 5 = 1", "lend 0 1 0 10 = 2", "lend 1 2 0 10 = 3", "lend 1 3 0 10 = 4", "lend 2 0 0 10 = 5",
            "lend 0 5 0 49 = 6", "hold 5 0 yes = 0", "part 0 0 0 = 0", "part 0 0 5 = 15", "gather 0 0 = 15", "count 5 = 6", "count 0 = 1",
            "loan 6 3 = 49");
        Script.run("rings of loans come to an end",
            "lend 0 1 0 64 = 0", "lend 1 2 0 64 = 1", "lend 2 3 0 64 = 2", "lend 3 4 0 64 = 3", "lend 4 5 0 64 = 4", "lend 5 0 0 64 = 5",
            "lend 0 1 0 64 = 6", "lend 1 0 0 64 = 7", "gather 0 0 = 64", "count 0 = 0", "count 5 = 8");
    }

    private static void answers() {
        Script.run("NONE if no loan is given back by that: none was lent",
            "gather 0 0 = NONE", "gather 5 0 = NONE", "gather 0 5 = NONE", "lend 0 1 0 64 = 0", "gather 1 0 = NONE", "gather 2 0 = NONE", "count 7 = 1");
        Script.run("NONE if no loan is given back by that: none can be",
            "lend 0 1 0 64 = 0", "hold 1 0 yes = 0", "gather 0 0 = NONE", "count 7 = 2", "hold 1 0 no = 0", "gather 0 0 = 64", "count 7 = 4");
        Script.run("a loan that is given back to another one is given back by that, so 0 parts may be the answer",
            "lend 0 1 0 64 = 0", "lend 1 2 0 32 = 1", "hold 1 0 yes = 0", "count 7 = 3", "gather 0 0 = 0", "count 7 = 4", "count 5 = 1",
            "part 1 0 0 = 64", "undo = 3", "part 1 0 0 = 32");
        Script.run("part 5 tells the same ahead of it, and changes nothing",
            "lend 0 1 0 64 = 0", "lend 1 2 0 32 = 1", "hold 1 0 yes = 0", "part 0 0 5 = 0", "part 1 0 5 = 64", "part 2 0 5 = 32", "part 3 0 5 = 0",
            "part 1 0 0 = 32", "count 5 = 0", "count 7 = 3", "undo = 2", "part 0 0 5 = 64", "undo = 1", "part 1 0 5 = 64", "part 1 0 0 = 64");
    }

    private static void reasons() {
        Script.run("reason 0: it would hold the whole, whoever holds on",
            "reason 0 0 = 0", "hold 0 0 yes = 0", "reason 0 0 = 0", "lend 1 2 1 64 = 0", "hold 2 1 yes = 0", "reason 2 1 = 0", "reason 1 1 = 1");
        Script.run("reason 1: it would not, and any agent holds on, it or another one, also if that hinders nothing",
            "lend 0 1 0 10 = 0", "reason 1 0 = 2", "hold 0 0 yes = 0", "reason 1 0 = 1", "reason 5 0 = 1", "reason 0 0 = 0", "hold 0 0 no = 0",
            "hold 1 0 yes = 0", "reason 1 0 = 1", "reason 0 0 = 1", "reason 2 0 = 1");
        Script.run("reason 2: it would not, and no one holds on to the cell, but to others",
            "hold 1 1 yes = 0", "hold 5 5 yes = 0", "reason 1 0 = 2", "reason 0 1 = 1", "lend 0 1 0 64 = 0", "lend 1 0 0 64 = 1", "reason 1 0 = 0",
            "reason 2 0 = 2", "reason 0 0 = 0");
        Script.run("reason 2: also for the owner, whose one gathering is not enough",
            "lend 0 3 0 24 = 0", "lend 3 0 0 24 = 1", "lend 0 1 0 64 = 2", "lend 1 0 0 24 = 3", "giveBack 1 = 24", "part 0 0 5 = 24", "reason 0 0 = 2",
            "gather 0 0 = 24", "reason 0 0 = 0", "gather 0 0 = 64", "count 5 = 4");
    }
}
