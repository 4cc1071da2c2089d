/** The edges of "LOANS" and of promises 2 to 4, a run for each sentence. */
public final class LoansEdgesTest {
    /** 996 loans of agent 0 to agent 1, all of them given back; 225 calls. */
    private static final String[] MANY_LOANS = {
        "text l0>1:0/9,l0>1:0/9,l0>1:0/9,l0>1:0/9,l0>1:0/9,l0>1:0/9,g0:0 = 58", "perform = 7 times 166", "count 0 = 0", "count 1 = 996",
    };

    private LoansEdgesTest() {
    }

    public static void main(String[] args) {
        numbers();
        parts();
        givingBack();
        sideBySide();
        fortyLoans();
        thousandLoans();
        tooFewParts();
        halves();
        Due.end();
    }

    private static void numbers() {
        Script.run("numbered from 0 in the order in which loans were made, whatever becomes of them",
            "lend 0 1 0 5 = 0", "lend 2 3 2 5 = 1", "giveBack 1 = 64", "half 3 4 3 = 32", "loan 2 3 = 32", "giveBack 0 = 64",
            "lend 0 1 0 1 = 3", "claim 5 4 yes = 1", "serve 4 = 5", "loan 4 1 = 5", "loan 4 3 = 64", "lend 0 1 0 1 = 5", "loan 1 0 = UNKNOWN",
            "count 1 = 6");
        Script.run("a call that is refused takes no number",
            "lend 0 1 0 65 = BAD_VALUE", "lend 1 0 0 1 = NOT_POSSIBLE", "half 1 0 0 = NOT_POSSIBLE", "lend 0 1 0 1 = 0",
            "text l0>1:0/1,l1>0:0/60 = 18", "perform = NOT_POSSIBLE", "lend 0 1 0 1 = 1");
        Script.run("a loan whose making is undone was not made",
            "lend 0 1 0 1 = 0..2", "undo = 2", "undo = 1", "lend 2 1 2 7 = 1", "loan 1 0 = 2", "loan 2 0 = UNKNOWN", "count 1 = 2");
    }

    private static void parts() {
        Script.run("the parts are held by the borrower then, until it gives them back, all together",
            "lend 0 1 0 10 = 0", "part 0 0 0 = 54", "part 1 0 0 = 10", "lend 1 2 0 10 = 1", "part 1 0 0 = 0", "part 2 0 0 = 10",
            "part 0 0 1 = 10", "giveBack 1 = 10", "part 2 0 0 = 0", "part 1 0 0 = 10", "giveBack 0 = 64", "part 1 0 0 = 0");
        Script.run("parts can be lent up to the last one",
            "lend 0 1 0 63 = 0", "lend 0 1 0 1 = 1", "lend 0 1 0 1 = NOT_POSSIBLE", "part 0 0 0 = 0", "lend 1 5 0 64 = 2", "part 5 0 0 = 64");
        Script.run("who holds none of its own can lend what it borrowed, also to the owner",
            "lend 0 1 0 64 = 0", "lend 1 0 0 64 = 1", "lend 0 2 0 64 = 2", "lend 2 0 0 1 = 3", "part 0 0 0 = 1", "part 2 0 0 = 63");
    }

    private static void givingBack() {
        Script.run("it can give back if it holds so many parts as the loan has: one fewer is too few",
            "lend 0 1 0 10 = 0", "lend 1 2 0 1 = 1", "loan 0 4 = 0", "giveBack 0 = NOT_POSSIBLE", "giveBack 1 = 10", "loan 0 4 = 1",
            "giveBack 0 = 64");
        Script.run("so many parts, wherever it has them from",
            "lend 0 1 0 10 = 0", "lend 1 2 0 1 = 1", "lend 0 1 0 1 = 2", "loan 0 4 = 1", "giveBack 0 = 63", "part 1 0 0 = 0", "loan 2 4 = 0",
            "giveBack 2 = NOT_POSSIBLE");
        Script.run("of the cell: what it holds of others does not count",
            "lend 0 1 0 10 = 0", "lend 1 2 0 10 = 1", "part 1 1 0 = 64", "loan 0 4 = 0", "giveBack 0 = NOT_POSSIBLE");
        Script.run("and does not hold on to the cell: to another one it may",
            "lend 0 1 0 10 = 0", "hold 1 1 yes = 0", "loan 0 4 = 1", "hold 1 0 yes = 0", "loan 0 4 = 0", "giveBack 0 = NOT_POSSIBLE",
            "hold 0 0 yes = 0", "hold 1 0 no = 0", "giveBack 0 = 64");
        Script.run("a loan that was given back is gone",
            "lend 0 1 0 10 = 0", "giveBack 0 = 64", "giveBack 0 = UNKNOWN", "loan 0 0 = UNKNOWN", "loan 0 4 = UNKNOWN", "part 0 0 1 = 0",
            "part 1 0 2 = 0", "cell 0 6 = 0", "count 0 = 0", "count 5 = 1");
        Script.run("giveBack returns how many parts its lender holds then, whoever that is",
            "lend 0 1 0 64 = 0", "lend 1 2 0 64 = 1", "lend 2 3 0 5 = 2", "lend 1 2 0 1 = NOT_POSSIBLE", "giveBack 2 = 64", "giveBack 1 = 64",
            "lend 1 2 0 63 = 3", "lend 1 2 0 1 = 4", "giveBack 4 = 1", "giveBack 3 = 64", "giveBack 0 = 64");
    }

    private static void sideBySide() {
        Script.run("several of one cell from one agent to the same other one stand side by side",
            "lend 0 1 0 10 = 0", "lend 0 1 0 10 = 1", "lend 0 1 0 10 = 2", "cell 0 6 = 3", "loan 0 3 = 10", "loan 1 3 = 10", "giveBack 1 = 44",
            "loan 0 3 = 10", "loan 2 3 = 10", "loan 1 3 = UNKNOWN", "part 0 0 1 = 20", "half 0 1 0 = 22", "cell 0 6 = 3", "loan 3 3 = 22");
        Script.run("loans that differ in all stay what they are when one ahead of them is given back",
            "lend 0 1 0 3 = 0", "lend 2 4 2 7 = 1", "lend 5 3 5 9 = 2", "giveBack 0 = 64", "loan 1 0 = 2", "loan 1 1 = 4", "loan 1 2 = 2", "loan 1 3 = 7",
            "loan 2 0 = 5", "loan 2 1 = 3", "loan 2 2 = 5", "loan 2 3 = 9", "giveBack 1 = 64", "loan 2 0 = 5", "loan 2 1 = 3", "loan 2 2 = 5",
            "loan 2 3 = 9", "part 3 5 2 = 9", "cell 5 6 = 1", "giveBack 2 = 64");
        Script.run("a loan there and one back stand side by side",
            "lend 0 1 0 10 = 0", "lend 1 0 0 10 = 1", "cell 0 6 = 2", "part 0 0 0 = 64", "part 0 0 1 = 10", "part 0 0 2 = 10", "giveBack 0 = NOT_POSSIBLE",
            "giveBack 1 = 10");
    }

    private static void fortyLoans() {
        Script.run("lend: at most 40 loans stand at a time",
            "lend 0 1 0 1 = 0..38", "count 0 = 39", "lend 0 1 0 1 = 39", "lend 0 1 0 1 = FULL", "count 0 = 40", "giveBack 0 = 25",
            "lend 0 1 0 1 = 40", "lend 0 1 0 1 = FULL", "giveBack 40 = 25", "giveBack 39 = 26", "lend 0 1 0 1 = 41..42", "lend 0 1 0 1 = FULL");
        Script.run("half: at most 40 loans stand at a time",
            "lend 0 1 0 1 = 0..38", "half 0 1 0 = 12", "half 0 1 0 = FULL", "giveBack 39 = 25", "half 0 1 0 = 12", "half 0 1 0 = FULL");
        Script.run("40 loans of all cells and agents together",
            "lend 0 1 0 1 = 0..6", "lend 1 2 1 1 = 7..13", "lend 2 3 2 1 = 14..20", "lend 3 4 3 1 = 21..27", "lend 4 5 4 1 = 28..34",
            "lend 5 0 5 1 = 35..38", "half 5 0 5 = 30", "lend 0 1 0 1 = FULL", "lend 5 1 5 1 = FULL", "half 3 5 3 = FULL", "lend 0 5 5 1 = FULL",
            "cell 5 6 = 5", "gather 4 4 = 64", "lend 0 1 0 1 = 40..46", "lend 0 1 0 1 = FULL");
        Script.run("perform: at most 40 loans stand at a time",
            "lend 0 1 0 1 = 0..37", "text l3>4:3/1,l3>4:3/1 = 17", "perform = 2", "perform = NOT_POSSIBLE", "stop 0 = 0", "stop 1 = FULL",
            "giveBack 0 = 27", "perform = NOT_POSSIBLE", "stop 0 = 1", "stop 1 = FULL", "count 0 = 39");
        Script.run("40 loans stand again behind an undo",
            "lend 0 1 0 1 = 0..39", "gather 0 0 = 64", "undo = 3", "lend 0 1 0 1 = FULL", "undo = 2", "lend 0 1 0 1 = 39", "lend 0 1 0 1 = FULL");
    }

    private static void afterMany(String what, String... lines) {
        Calls object = new Calls(LentParts.class);
        Script.play(what, object, MANY_LOANS);
        Script.play(what, object, lines);
        Due.holds(what + ": at most 512 calls", object.made() <= Script.MOST_CALLS);
    }

    private static void thousandLoans() {
        afterMany("lend: FULL if there have been 1000",
            "lend 0 1 0 1 = 996..999", "count 1 = 1000", "lend 0 1 0 1 = FULL", "loan 999 3 = 1", "loan 1000 3 = UNKNOWN", "giveBack 999 = 61",
            "count 0 = 3", "lend 0 1 0 1 = FULL", "lend 0 1 0 62 = NOT_POSSIBLE", "lend 0 1 0 65 = BAD_VALUE");
        afterMany("half: FULL if there have been 1000",
            "lend 0 1 0 1 = 996..998", "half 0 1 0 = 30", "loan 999 3 = 30", "half 0 1 0 = FULL", "half 3 1 3 = FULL", "half 3 1 0 = NOT_POSSIBLE",
            "half 3 3 3 = BAD_VALUE", "gather 0 0 = 64", "half 0 1 0 = FULL");
        afterMany("serve: FULL if there have been 1000, and the gathering is taken back then",
            "claim 3 2 yes = 1", "claim 4 2 yes = 2", "claim 2 2 yes = 3", "lend 0 1 0 1 = 996..998", "serve 2 = 3", "loan 999 3 = 64",
            "serve 2 = FULL", "part 3 2 0 = 64", "cell 2 4 = 2", "count 5 = 996", "claim 4 2 no = 1", "serve 2 = 2", "count 5 = 997",
            "part 2 2 0 = 64");
        afterMany("serve: FULL only if the whole would have to be lent",
            "lend 0 1 0 1 = 996..998", "lend 4 3 4 1 = 999", "claim 5 4 yes = 1", "hold 3 4 yes = 0", "serve 4 = NONE", "lend 4 3 4 1 = FULL",
            "hold 3 4 no = 0", "serve 4 = FULL", "part 3 4 0 = 1", "claim 1 0 yes = 1", "hold 0 0 yes = 0", "serve 0 = 9", "part 0 0 0 = 64",
            "serve 0 = NONE");
        afterMany("perform: FULL if there have been 1000",
            "perform = NOT_POSSIBLE", "stop 0 = 4", "stop 1 = FULL", "count 1 = 996", "text l2>1:2/1,l2>1:2/1,l2>1:2/1,l2>1:2/1 = 35",
            "perform = 4", "text g2:2,b999 = 9", "perform = NOT_POSSIBLE", "stop 0 = 1", "stop 1 = UNKNOWN", "text b999,g2:2 = 9", "perform = 2",
            "count 5 = 1000", "text l0>1:0/1 = 8", "perform = NOT_POSSIBLE", "stop 0 = 0", "stop 1 = FULL");
        afterMany("loans that were undone have not been: then there is room for them again",
            "lend 0 1 0 1 = 996..999", "lend 0 1 0 1 = FULL", "undo = 3", "undo = 2", "lend 0 1 0 7 = 998", "half 0 1 0 = 27", "half 0 1 0 = FULL",
            "loan 999 3 = 27");
    }

    private static void tooFewParts() {
        Script.run("lend: NOT_POSSIBLE if from holds fewer parts",
            "lend 0 1 0 60 = 0", "lend 0 1 0 5 = NOT_POSSIBLE", "lend 0 1 0 4 = 1", "lend 0 1 0 1 = NOT_POSSIBLE", "lend 1 2 0 64 = 2",
            "lend 1 2 0 1 = NOT_POSSIBLE", "lend 2 1 0 64 = 3");
        Script.run("lend: NOT_POSSIBLE if from holds on to the cell; the one to whom may",
            "lend 0 1 0 8 = 0", "hold 1 0 yes = 0", "lend 1 2 0 1 = NOT_POSSIBLE", "half 1 2 0 = NOT_POSSIBLE", "lend 0 1 0 8 = 1", "half 0 1 0 = 24",
            "lend 1 2 1 1 = 3", "hold 1 0 no = 0", "lend 1 2 0 40 = 4");
    }

    private static void halves() {
        Script.run("half of the parts, rounded down; NOT_POSSIBLE if fewer than 2",
            "half 0 1 0 = 32", "lend 0 2 0 1 = 1", "half 0 1 0 = 15", "part 0 0 0 = 16", "lend 0 2 0 13 = 3", "half 0 1 0 = 1", "part 0 0 0 = 2",
            "half 0 1 0 = 1", "part 0 0 0 = 1", "half 0 1 0 = NOT_POSSIBLE", "lend 0 1 0 1 = 6", "half 0 1 0 = NOT_POSSIBLE", "half 3 1 0 = NOT_POSSIBLE",
            "count 0 = 7");
        Script.run("half of the parts that it holds, not of those that it owns",
            "lend 0 1 0 21 = 0", "half 1 2 0 = 10", "part 1 0 0 = 11", "half 1 0 0 = 5", "part 0 0 0 = 48", "half 0 1 0 = 24", "loan 3 3 = 24",
            "loan 3 0 = 0", "loan 3 1 = 1", "loan 3 2 = 0");
    }
}
