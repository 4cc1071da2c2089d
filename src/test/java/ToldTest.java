/** Promises 19 to 24: cell, part, loan, reason, chain, count. */
public final class ToldTest {
    private static final String[] WORLD = {
        "write 0 0 17 = 1", "lend 0 1 0 20 = 0", "lend 1 2 0 5 = 1", "lend 1 2 0 6 = 2", "lend 2 0 0 1 = 3",
        "lend 3 4 3 64 = 4", "giveBack 3 = 11", "hold 2 0 yes = 17", "hold 0 0 yes = 17", "hold 5 5 yes = 0",
        "claim 4 0 yes = 1", "claim 1 0 yes = 2", "claim 1 5 yes = 1",
    };

    private ToldTest() {
    }

    public static void main(String[] args) {
        cell();
        part();
        loan();
        reason();
        chain();
        count();
        Due.end();
    }

    private static void inWorld(String what, String... lines) {
        String[] all = new String[WORLD.length + lines.length];
        System.arraycopy(WORLD, 0, all, 0, WORLD.length);
        System.arraycopy(lines, 0, all, WORLD.length, lines.length);
        Script.run(what, all);
    }

    private static void cell() {
        inWorld("promise 19",
            "cell 0 0 = 17", "cell 0 1 = 1", "cell 0 2 = 0", "cell 0 3 = 3", "cell 0 4 = 2", "cell 0 5 = 4", "cell 0 6 = 3",
            "cell 0 7 = NONE", "cell 0 8 = 2", "cell 3 0 = 0", "cell 3 2 = 3", "cell 3 3 = 1", "cell 3 4 = 0",
            "cell 3 5 = NONE", "cell 3 6 = 1", "cell 3 7 = 4", "cell 3 8 = 0", "cell 5 8 = 1", "cell 5 5 = 1",
            "cell 6 0 = UNKNOWN", "cell -1 0 = UNKNOWN", "cell 6 9 = UNKNOWN", "cell -1 -1 = UNKNOWN", "cell 0 9 = BAD_VALUE",
            "cell 0 -1 = BAD_VALUE", "cell 2147483647 0 = UNKNOWN", "cell 0 -2147483648 = BAD_VALUE");
    }

    private static void part() {
        inWorld("promise 20",
            "part 0 0 0 = 44", "part 0 0 1 = 20", "part 0 0 2 = 0", "part 0 0 3 = 1", "part 0 0 4 = NONE", "part 0 0 5 = 44",
            "part 1 0 0 = 9", "part 1 0 1 = 11", "part 1 0 2 = 20", "part 1 0 3 = 0", "part 1 0 4 = 1", "part 1 0 5 = 9",
            "part 2 0 0 = 11", "part 2 0 1 = 0", "part 2 0 2 = 11", "part 2 0 3 = 1", "part 4 0 4 = 0", "part 1 5 4 = 0",
            "part 3 3 5 = 64", "part 3 3 0 = 0", "part 4 3 2 = 64", "part 3 3 1 = 64", "part 5 0 5 = 0",
            "part 6 0 0 = UNKNOWN", "part -1 0 0 = UNKNOWN", "part 0 6 0 = UNKNOWN", "part 0 -1 0 = UNKNOWN",
            "part 6 0 6 = UNKNOWN", "part 0 6 -1 = UNKNOWN", "part 0 0 6 = BAD_VALUE", "part 0 0 -1 = BAD_VALUE",
            "part 0 0 2147483647 = BAD_VALUE", "part -2147483648 0 0 = UNKNOWN",
            "hold 2 0 no = 17", "part 1 0 5 = 20", "part 0 0 5 = 64", "part 0 0 0 = 44", "count 5 = 1");
    }

    private static void loan() {
        inWorld("promise 21",
            "loan 0 0 = 0", "loan 0 1 = 1", "loan 0 2 = 0", "loan 0 3 = 20", "loan 0 4 = 0", "loan 2 0 = 1", "loan 2 1 = 2",
            "loan 2 3 = 6", "loan 2 4 = 0", "loan 4 0 = 3", "loan 4 1 = 4", "loan 4 2 = 3", "loan 4 3 = 64", "loan 4 4 = 1",
            "loan 3 0 = UNKNOWN", "loan 5 0 = UNKNOWN", "loan -1 0 = UNKNOWN", "loan 3 9 = UNKNOWN", "loan 2147483647 0 = UNKNOWN",
            "loan 4 5 = BAD_VALUE", "loan 4 -1 = BAD_VALUE", "hold 2 0 no = 17", "loan 2 4 = 1", "loan 1 4 = 1",
            "giveBack 1 = 14", "giveBack 2 = 20", "loan 0 4 = 1", "hold 1 0 yes = 17", "loan 0 4 = 0");
    }

    private static void reason() {
        inWorld("promise 22",
            "reason 0 0 = 1", "reason 1 0 = 1", "reason 5 0 = 1", "reason 3 3 = 0", "reason 4 3 = 0", "reason 0 3 = 2",
            "reason 5 5 = 0", "reason 0 5 = 1", "reason 2 2 = 0", "reason 1 2 = 2", "hold 0 0 no = 17", "reason 0 0 = 1",
            "hold 2 0 no = 17", "reason 0 0 = 0", "reason 1 0 = 2", "hold 0 0 yes = 17", "reason 0 0 = 0",
            "reason 6 0 = UNKNOWN", "reason -1 0 = UNKNOWN", "reason 0 6 = UNKNOWN", "reason 0 -1 = UNKNOWN", "count 5 = 1");
    }

    private static void chain() {
        Script.run("promise 23",
            "chain 0 = 0", "lend 0 1 0 10 = 0", "chain 0 = 1", "chain 1 = 0", "lend 2 3 1 10 = NOT_POSSIBLE",
            "lend 0 2 0 10 = 1", "chain 0 = 1", "lend 2 0 0 5 = 2", "chain 0 = 2", "lend 1 2 0 5 = 3", "chain 0 = 2",
            "lend 2 3 0 3 = 4", "lend 3 4 0 2 = 5", "lend 4 5 0 1 = 6", "chain 0 = 5", "lend 5 0 0 1 = 7", "chain 0 = 5",
            "giveBack 7 = 1", "giveBack 6 = 2", "chain 0 = 4", "lend 4 2 0 1 = 8", "chain 0 = 4", "gather 0 0 = 64", "chain 0 = 0",
            "chain 6 = UNKNOWN", "chain -1 = UNKNOWN", "chain 2147483647 = UNKNOWN");
        Script.run("promise 23, the order in which loans were made does not count",
            "lend 0 1 0 10 = 0", "lend 0 2 0 10 = 1", "lend 1 3 0 5 = 2", "lend 2 1 0 10 = 3", "chain 0 = 3",
            "lend 3 0 0 5 = 4", "chain 0 = 3", "giveBack 3 = 10", "chain 0 = 3", "lend 4 5 4 10 = 5", "chain 4 = 1");
        Script.run("promise 23, no agent twice",
            "lend 0 1 0 10 = 0", "lend 1 0 0 10 = 1", "lend 0 1 0 10 = 2", "chain 0 = 1", "lend 1 2 0 10 = 3", "chain 0 = 2");
    }

    private static void count() {
        inWorld("promise 24",
            "count 0 = 4", "count 1 = 5", "count 2 = 5", "count 3 = 3", "count 4 = 1", "count 5 = 1", "count 6 = 3", "count 7 = 4",
            "count 8 = 0", "text abc = 3", "count 8 = 3", "count 9 = BAD_VALUE", "count -1 = BAD_VALUE",
            "count 2147483647 = BAD_VALUE", "count -2147483648 = BAD_VALUE", "lend 5 0 5 1 = NOT_POSSIBLE", "lend 1 0 1 1 = 5",
            "count 2 = 4", "hold 0 1 yes = 0", "hold 5 5 no = 0", "count 6 = 3", "claim 1 5 no = 0", "count 3 = 2");
    }
}
