/** Promises 6 to 8: hold, write, read. */
public final class CellsTest {
    private CellsTest() {
    }

    public static void main(String[] args) {
        hold();
        write();
        read();
        Due.end();
    }

    private static void hold() {
        Script.run("promise 6",
            "write 0 0 7 = 1", "hold 0 0 no = NONE", "hold 0 0 yes = 7", "hold 0 0 yes = NONE", "part 0 0 3 = 1",
            "cell 0 8 = 1", "hold 1 0 yes = NOT_POSSIBLE", "hold 1 0 no = NONE", "count 7 = 2",
            "write 0 0 8 = 2", "hold 0 0 no = 8", "hold 0 0 no = NONE", "part 0 0 3 = 0", "count 6 = 0",
            "lend 0 1 0 1 = 0", "hold 1 0 yes = 8", "hold 0 0 yes = 8", "hold 0 1 yes = NOT_POSSIBLE",
            "hold 1 1 yes = 0", "count 6 = 3", "cell 0 8 = 2", "part 1 1 3 = 1", "part 0 1 3 = 0");
        Script.run("promise 6, what is wrong",
            "hold 6 0 yes = UNKNOWN", "hold -1 0 no = UNKNOWN", "hold 0 6 yes = UNKNOWN", "hold 0 -1 no = UNKNOWN",
            "hold 32 0 yes = UNKNOWN", "hold 0 2147483647 yes = UNKNOWN", "count 7 = 0");
        Script.run("promise 6, holding on keeps the parts",
            "lend 0 1 0 8 = 0", "lend 0 2 0 8 = 1", "lend 2 1 0 8 = 2", "hold 1 0 yes = 0",
            "giveBack 0 = NOT_POSSIBLE", "giveBack 2 = NOT_POSSIBLE", "lend 1 3 0 1 = NOT_POSSIBLE",
            "half 1 3 0 = NOT_POSSIBLE", "gather 0 0 = NONE", "lend 0 1 0 8 = 3", "part 1 0 0 = 24",
            "lend 1 3 1 8 = 4", "hold 1 0 no = 0", "giveBack 2 = 8");
    }

    private static void write() {
        Script.run("promise 7",
            "write 0 0 0 = 1", "write 0 0 999 = 2", "cell 0 0 = 999", "cell 0 1 = 2", "write 1 1 5 = 1", "count 4 = 3",
            "write 0 0 1000 = BAD_VALUE", "write 0 0 -1 = BAD_VALUE", "write 1 0 -1 = BAD_VALUE", "write 1 0 1000 = BAD_VALUE",
            "write 1 0 5 = NOT_POSSIBLE", "write 0 1 5 = NOT_POSSIBLE", "write 6 0 5 = UNKNOWN", "write -1 0 5 = UNKNOWN",
            "write 0 6 5 = UNKNOWN", "write 0 -1 5 = UNKNOWN", "write 6 0 1000 = UNKNOWN", "write 0 6 -1 = UNKNOWN",
            "write 0 0 2147483647 = BAD_VALUE", "write 0 0 -2147483648 = BAD_VALUE",
            "lend 0 1 0 1 = 0", "write 0 0 5 = NOT_POSSIBLE", "write 1 0 5 = NOT_POSSIBLE",
            "lend 0 1 0 63 = 1", "write 1 0 5 = 3", "write 0 0 5 = NOT_POSSIBLE", "hold 1 0 yes = 5", "write 1 0 6 = 4",
            "cell 0 0 = 6", "count 4 = 5");
    }

    private static void read() {
        Script.run("promise 8",
            "read 0 0 = 0", "write 0 0 41 = 1", "read 0 0 = 41", "read 1 0 = NOT_POSSIBLE", "read 0 1 = NOT_POSSIBLE",
            "lend 0 1 0 1 = 0", "read 1 0 = 41", "lend 0 2 0 63 = 1", "read 0 0 = NOT_POSSIBLE", "read 2 0 = 41",
            "read 6 0 = UNKNOWN", "read -1 0 = UNKNOWN", "read 0 6 = UNKNOWN", "read 0 -1 = UNKNOWN",
            "read 2147483647 0 = UNKNOWN", "read 0 -2147483648 = UNKNOWN", "count 7 = 3");
    }
}
