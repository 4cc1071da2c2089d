/** "Where several errors can apply, the order of the @return line is the order of the checks." */
public final class OrderTest {
    private OrderTest() {
    }

    public static void main(String[] args) {
        lend();
        half();
        giveBackAndGather();
        hold();
        write();
        claim();
        serve();
        handOver();
        perform();
        told();
        Due.end();
    }

    private static void lend() {
        Script.run("lend: UNKNOWN ahead of BAD_VALUE",
            "lend 6 1 0 0 = UNKNOWN", "lend 0 6 0 65 = UNKNOWN", "lend 0 1 6 0 = UNKNOWN", "lend 6 6 0 1 = UNKNOWN",
            "lend -1 -1 0 1 = UNKNOWN", "lend 0 0 6 1 = UNKNOWN", "lend 0 0 -1 65 = UNKNOWN");
        Script.run("lend: UNKNOWN ahead of NOT_POSSIBLE",
            "hold 0 0 yes = 0", "lend 1 6 0 1 = UNKNOWN", "lend 0 6 0 1 = UNKNOWN", "lend 0 -1 0 64 = UNKNOWN");
        Script.run("lend: UNKNOWN ahead of FULL",
            "lend 0 1 0 1 = 0..39", "lend 6 1 0 1 = UNKNOWN", "lend 0 6 0 1 = UNKNOWN", "lend 0 1 6 1 = UNKNOWN");
        Script.run("lend: BAD_VALUE ahead of NOT_POSSIBLE, for the parts",
            "hold 0 0 yes = 0", "lend 1 2 0 65 = BAD_VALUE", "lend 1 2 0 0 = BAD_VALUE", "lend 0 2 0 65 = BAD_VALUE",
            "lend 0 2 0 0 = BAD_VALUE");
        Script.run("lend: BAD_VALUE ahead of NOT_POSSIBLE, for the same agent twice",
            "hold 0 0 yes = 0", "lend 0 0 0 1 = BAD_VALUE", "lend 1 1 0 1 = BAD_VALUE", "lend 1 1 0 64 = BAD_VALUE");
        Script.run("lend: BAD_VALUE ahead of FULL",
            "lend 0 1 0 1 = 0..39", "lend 0 1 0 65 = BAD_VALUE", "lend 0 1 0 0 = BAD_VALUE", "lend 0 0 0 1 = BAD_VALUE");
        Script.run("lend: NOT_POSSIBLE ahead of FULL, for too few parts",
            "lend 0 1 0 1 = 0..39", "lend 0 1 0 25 = NOT_POSSIBLE", "lend 2 1 0 1 = NOT_POSSIBLE", "lend 0 1 0 24 = FULL");
        Script.run("lend: NOT_POSSIBLE ahead of FULL, for holding on",
            "lend 0 1 0 1 = 0..39", "hold 0 0 yes = 0", "lend 0 1 0 1 = NOT_POSSIBLE", "lend 1 0 0 1 = FULL");
    }

    private static void half() {
        Script.run("half: UNKNOWN ahead of BAD_VALUE", "half 6 6 0 = UNKNOWN", "half -1 -1 0 = UNKNOWN", "half 0 0 6 = UNKNOWN");
        Script.run("half: UNKNOWN ahead of NOT_POSSIBLE",
            "hold 0 0 yes = 0", "half 1 6 0 = UNKNOWN", "half 0 6 0 = UNKNOWN", "half 0 -1 0 = UNKNOWN");
        Script.run("half: UNKNOWN ahead of FULL",
            "lend 0 1 0 1 = 0..39", "half 6 1 0 = UNKNOWN", "half 0 6 0 = UNKNOWN", "half 0 1 6 = UNKNOWN");
        Script.run("half: BAD_VALUE ahead of NOT_POSSIBLE",
            "lend 0 2 0 1 = 0", "hold 0 0 yes = 0", "half 0 0 0 = BAD_VALUE", "half 1 1 0 = BAD_VALUE", "half 2 2 0 = BAD_VALUE");
        Script.run("half: BAD_VALUE ahead of FULL", "lend 0 1 0 1 = 0..39", "half 0 0 0 = BAD_VALUE", "half 1 1 0 = BAD_VALUE");
        Script.run("half: NOT_POSSIBLE ahead of FULL, for too few parts",
            "lend 0 1 0 1 = 0..38", "lend 0 2 0 1 = 39", "half 2 1 0 = NOT_POSSIBLE", "half 3 1 0 = NOT_POSSIBLE", "half 0 1 0 = FULL");
        Script.run("half: NOT_POSSIBLE ahead of FULL, for holding on",
            "lend 0 1 0 1 = 0..39", "hold 0 0 yes = 0", "half 0 1 0 = NOT_POSSIBLE", "half 1 0 0 = FULL");
    }

    private static void giveBackAndGather() {
        Script.run("giveBack: a loan that is gone is UNKNOWN, also if its borrower holds on, or no parts",
            "lend 0 1 0 5 = 0", "lend 0 1 0 5 = 1", "giveBack 0 = 59", "hold 1 0 yes = 0", "giveBack 0 = UNKNOWN",
            "giveBack 1 = NOT_POSSIBLE", "hold 1 0 no = 0", "giveBack 1 = 64", "giveBack 0 = UNKNOWN");
        Script.run("gather: UNKNOWN ahead of NONE", "gather 6 0 = UNKNOWN", "gather 0 6 = UNKNOWN", "gather 0 0 = NONE", "gather 5 0 = NONE");
    }

    private static void hold() {
        Script.run("hold: UNKNOWN ahead of NOT_POSSIBLE", "hold 6 0 yes = UNKNOWN", "hold 1 6 yes = UNKNOWN", "hold 1 0 yes = NOT_POSSIBLE");
        Script.run("hold: UNKNOWN ahead of NONE", "hold 6 0 no = UNKNOWN", "hold 1 -1 no = UNKNOWN", "hold 1 0 no = NONE");
    }

    private static void write() {
        Script.run("write: UNKNOWN ahead of BAD_VALUE",
            "write 6 0 1000 = UNKNOWN", "write 0 6 1000 = UNKNOWN", "write -1 0 -1 = UNKNOWN", "write 0 -1 -1 = UNKNOWN");
        Script.run("write: UNKNOWN ahead of NOT_POSSIBLE", "lend 0 1 0 1 = 0", "write 6 0 5 = UNKNOWN", "write 0 6 5 = UNKNOWN");
        Script.run("write: BAD_VALUE ahead of NOT_POSSIBLE",
            "write 1 0 1000 = BAD_VALUE", "write 1 0 -1 = BAD_VALUE", "lend 0 1 0 1 = 0", "write 0 0 1000 = BAD_VALUE",
            "write 0 0 -1 = BAD_VALUE", "write 0 0 999 = NOT_POSSIBLE");
    }

    private static void claim() {
        Script.run("claim: UNKNOWN ahead of NONE",
            "claim 6 0 no = UNKNOWN", "claim 0 6 no = UNKNOWN", "claim 0 0 no = NONE", "claim 0 0 yes = 1", "claim 0 0 yes = NONE",
            "claim -1 0 yes = UNKNOWN");
    }

    private static void serve() {
        Script.run("serve: UNKNOWN ahead of NOT_POSSIBLE", "serve 6 = UNKNOWN", "serve -1 = UNKNOWN", "serve 5 = NOT_POSSIBLE");
        Script.run("serve: UNKNOWN ahead of FULL", "lend 1 0 1 1 = 0..39", "claim 1 0 yes = 1", "serve 6 = UNKNOWN", "serve 0 = FULL");
        Script.run("serve: NOT_POSSIBLE ahead of FULL and of NONE",
            "lend 1 0 1 1 = 0..39", "serve 0 = NOT_POSSIBLE", "hold 2 2 yes = 0", "serve 2 = NOT_POSSIBLE");
    }

    private static void handOver() {
        Script.run("handOver: UNKNOWN ahead of NOT_POSSIBLE",
            "lend 0 1 0 1 = 0", "handOver 0 6 = UNKNOWN", "handOver 0 -1 = UNKNOWN", "hold 1 1 yes = 0", "handOver 1 6 = UNKNOWN",
            "handOver 6 0 = UNKNOWN");
        Script.run("handOver: NOT_POSSIBLE ahead of NONE",
            "lend 0 1 0 1 = 0", "handOver 0 0 = NOT_POSSIBLE", "hold 1 1 yes = 0", "handOver 1 1 = NOT_POSSIBLE",
            "handOver 2 2 = NONE");
    }

    private static void perform() {
        Script.run("perform: a fault ahead of an act that is stopped",
            "text b0, = 3", "perform = -103", "stop 0 = NONE", "stop 1 = NONE", "text w1:0=5,x = 8", "perform = -107", "stop 0 = NONE",
            "count 7 = 0");
        Script.run("stop: BAD_VALUE ahead of NONE", "stop 2 = BAD_VALUE", "stop -1 = BAD_VALUE", "stop 0 = NONE");
    }

    private static void told() {
        Script.run("cell: UNKNOWN ahead of BAD_VALUE", "cell 6 9 = UNKNOWN", "cell -1 -1 = UNKNOWN", "cell 6 5 = UNKNOWN");
        Script.run("part: UNKNOWN ahead of BAD_VALUE", "part 6 0 6 = UNKNOWN", "part 0 6 6 = UNKNOWN", "part -1 0 -1 = UNKNOWN");
        Script.run("loan: UNKNOWN ahead of BAD_VALUE", "loan 0 5 = UNKNOWN", "loan -1 -1 = UNKNOWN", "lend 0 1 0 1 = 0", "loan 0 5 = BAD_VALUE",
            "loan 1 5 = UNKNOWN", "giveBack 0 = 64", "loan 0 5 = UNKNOWN");
    }
}
