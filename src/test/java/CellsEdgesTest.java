/** The edges of "CELLS, AGENTS, PARTS" and "HOLDING ON", and of promises 1 and 6 to 8, a run for each sentence. */
public final class CellsEdgesTest {
    private CellsEdgesTest() {
    }

    public static void main(String[] args) {
        atFirst();
        values();
        reading();
        writing();
        holdingOn();
        whileItHoldsOn();
        Due.end();
    }

    private static void atFirst() {
        for (int cell = 0; cell < 6; cell++) {
            Script.run("a value, at first 0", "cell " + cell + " 0 = 0", "read " + cell + " " + cell + " = 0");
            Script.run("a version, 0 at first", "cell " + cell + " 1 = 0");
            Script.run("an owner, at first the agent with its number", "cell " + cell + " 2 = " + cell);
            Script.run("64 parts, at first all held by its owner",
                "part " + cell + " " + cell + " 0 = 64", "cell " + cell + " 3 = 1", "cell " + cell + " 7 = " + cell, "cell " + cell + " 6 = 0",
                "cell " + cell + " 4 = 0", "cell " + cell + " 8 = 0", "chain " + cell + " = 0");
        }
        Script.run("each part is held by an agent, wherever it is lent to",
            "half 0 1 0 = 32", "half 1 2 0 = 16", "half 2 3 0 = 8", "half 3 4 0 = 4", "half 4 5 0 = 2", "half 5 0 0 = 1", "part 0 0 0 = 33",
            "part 1 0 0 = 16", "part 2 0 0 = 8", "part 3 0 0 = 4", "part 4 0 0 = 2", "part 5 0 0 = 1", "cell 0 3 = 6", "cell 0 7 = NONE");
    }

    private static void values() {
        Script.run("a value is 0 to 999",
            "write 0 0 999 = 1", "read 0 0 = 999", "write 0 0 1000 = BAD_VALUE", "read 0 0 = 999", "write 0 0 0 = 2", "read 0 0 = 0",
            "write 0 0 -1 = BAD_VALUE", "write 0 0 1 = 3", "write 0 0 998 = 4", "cell 0 0 = 998");
    }

    private static void reading() {
        Script.run("an agent can read a cell if it holds any part of it: one is enough",
            "write 0 0 5 = 1", "read 1 0 = NOT_POSSIBLE", "lend 0 1 0 1 = 0", "read 1 0 = 5", "giveBack 0 = 64", "read 1 0 = NOT_POSSIBLE");
        Script.run("an owner that lent all its parts cannot read; with one it can",
            "write 0 0 5 = 1", "lend 0 1 0 63 = 0", "read 0 0 = 5", "lend 0 1 0 1 = 1", "read 0 0 = NOT_POSSIBLE", "read 1 0 = 5",
            "giveBack 1 = 1", "read 0 0 = 5");
        Script.run("of it: parts of another cell do not count", "read 0 1 = NOT_POSSIBLE", "lend 1 0 1 1 = 0", "read 0 1 = 0", "read 0 2 = NOT_POSSIBLE");
    }

    private static void writing() {
        Script.run("it can write it if it holds all 64: 63 are too few",
            "lend 0 1 0 63 = 0", "write 1 0 5 = NOT_POSSIBLE", "write 0 0 5 = NOT_POSSIBLE", "lend 0 1 0 1 = 1", "write 1 0 5 = 1",
            "write 0 0 6 = NOT_POSSIBLE", "lend 1 0 0 1 = 2", "write 1 0 6 = NOT_POSSIBLE", "cell 0 0 = 5", "count 4 = 1");
        Script.run("all 64, wherever it has them from: the owner with parts lent to it",
            "lend 0 1 0 10 = 0", "lend 1 0 0 10 = 1", "write 0 0 5 = 1", "write 1 0 5 = NOT_POSSIBLE");
        Script.run("its version becomes greater by 1, also by the same value",
            "write 0 0 5 = 1", "write 0 0 5 = 2", "write 0 0 0 = 3", "cell 0 1 = 3", "cell 1 1 = 0", "write 1 1 5 = 1", "lend 0 1 0 64 = 0",
            "write 1 0 5 = 4", "count 4 = 5");
        Script.run("a version becomes greater as often as there are calls", "write 0 0 7 = 1..511", "cell 0 1 = 511");
        Script.run("who holds on to it can write it, too", "hold 0 0 yes = 0", "write 0 0 5 = 1", "hold 0 0 no = 5");
    }

    private static void holdingOn() {
        Script.run("hold: NOT_POSSIBLE if it cannot read the cell and is to hold on",
            "hold 1 0 yes = NOT_POSSIBLE", "lend 0 1 0 1 = 0", "hold 1 0 yes = 0", "lend 0 2 0 63 = 1", "hold 0 0 yes = NOT_POSSIBLE",
            "hold 2 0 yes = 0", "count 6 = 2");
        Script.run("hold: one that cannot read it and is not to hold on gets NONE", "hold 1 0 no = NONE", "hold 5 0 no = NONE", "count 7 = 0");
        Script.run("hold: NONE if it is so already",
            "hold 0 0 no = NONE", "hold 0 0 yes = 0", "hold 0 0 yes = NONE", "hold 0 0 no = 0", "hold 0 0 no = NONE", "count 7 = 2");
        Script.run("hold returns the value of the cell, both ways",
            "write 0 0 999 = 1", "hold 0 0 yes = 999", "write 0 0 3 = 2", "hold 0 0 yes = NONE", "hold 0 0 no = 3");
        Script.run("all six agents can hold on, to all six cells",
            "lend 0 1 0 1 = 0", "lend 0 2 0 1 = 1", "lend 0 3 0 1 = 2", "lend 0 4 0 1 = 3", "lend 0 5 0 1 = 4", "hold 0 0 yes = 0", "hold 1 0 yes = 0",
            "hold 2 0 yes = 0", "hold 3 0 yes = 0", "hold 4 0 yes = 0", "hold 5 0 yes = 0", "cell 0 8 = 6", "hold 1 1 yes = 0", "hold 2 2 yes = 0",
            "hold 3 3 yes = 0", "hold 4 4 yes = 0", "hold 5 5 yes = 0", "count 6 = 11", "cell 5 8 = 1", "hold 5 0 no = 0", "cell 0 8 = 5",
            "part 5 5 3 = 1", "part 5 0 3 = 0", "part 4 0 3 = 1");
    }

    private static void whileItHoldsOn() {
        Script.run("while it holds on, it gives no loan of this cell back, until it ends",
            "lend 0 1 0 10 = 0", "lend 0 1 0 5 = 1", "lend 2 1 2 5 = 2", "hold 1 0 yes = 0", "giveBack 0 = NOT_POSSIBLE", "giveBack 1 = NOT_POSSIBLE",
            "giveBack 2 = 64", "text b1 = 2", "perform = NOT_POSSIBLE", "stop 1 = NOT_POSSIBLE", "hold 1 0 no = 0", "perform = 1", "giveBack 0 = 64");
        Script.run("and lends none of its parts of it, but of others",
            "lend 0 1 0 10 = 0", "hold 1 0 yes = 0", "lend 1 2 0 1 = NOT_POSSIBLE", "lend 1 0 0 10 = NOT_POSSIBLE", "half 1 2 0 = NOT_POSSIBLE",
            "text l1>2:0/1 = 8", "perform = NOT_POSSIBLE", "stop 1 = NOT_POSSIBLE", "lend 1 2 1 1 = 1", "hold 1 0 no = 0", "perform = 1",
            "half 1 2 0 = 4");
        Script.run("it can borrow more, and what it lent comes back to it",
            "lend 0 1 0 10 = 0", "lend 1 2 0 5 = 1", "hold 1 0 yes = 0", "lend 0 1 0 10 = 2", "giveBack 1 = 20", "lend 0 1 0 44 = 3",
            "write 1 0 8 = 1", "giveBack 3 = NOT_POSSIBLE");
        Script.run("it is held on to by it, and by no one else",
            "lend 0 1 0 10 = 0", "hold 1 0 yes = 0", "lend 0 2 0 10 = 1", "giveBack 1 = 54", "half 0 2 0 = 27", "giveBack 2 = 54");
    }
}
