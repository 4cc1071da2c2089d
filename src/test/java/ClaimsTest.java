import java.util.ArrayList;
import java.util.List;

/** Promises 9 to 11: claim, serve, handOver. */
public final class ClaimsTest {
    private ClaimsTest() {
    }

    public static void main(String[] args) {
        claim();
        serve();
        serveHeld();
        serveFull();
        handOver();
        Due.end();
    }

    private static void claim() {
        Script.run("promise 9",
            "claim 3 0 yes = 1", "claim 0 0 yes = 2", "claim 5 0 yes = 3", "claim 3 0 yes = NONE", "claim 1 0 no = NONE",
            "claim 3 1 yes = 1", "count 3 = 4", "part 5 0 4 = 2", "claim 0 0 no = 2", "part 5 0 4 = 1", "part 0 0 4 = NONE",
            "claim 0 0 yes = 3", "part 0 0 4 = 2", "claim 3 0 no = 2", "cell 0 5 = 5", "cell 0 4 = 2", "cell 1 5 = 3",
            "claim 5 0 no = 1", "claim 0 0 no = 0", "cell 0 5 = NONE", "claim 0 0 no = NONE", "count 3 = 1",
            "claim 6 0 yes = UNKNOWN", "claim -1 0 no = UNKNOWN", "claim 0 6 yes = UNKNOWN", "claim 0 -1 no = UNKNOWN");
        Script.run("promise 9, claims of all agents",
            "claim 5 5 yes = 1", "claim 4 5 yes = 2", "claim 3 5 yes = 3", "claim 2 5 yes = 4", "claim 1 5 yes = 5",
            "claim 0 5 yes = 6", "part 0 5 4 = 5", "claim 0 5 yes = NONE", "claim 5 5 no = 5", "part 0 5 4 = 4",
            "claim 5 5 yes = 6", "part 5 5 4 = 5", "cell 5 5 = 4", "claim 5 4 yes = 1", "count 3 = 7");
    }

    private static void serve() {
        Script.run("promise 10",
            "serve 0 = NOT_POSSIBLE", "serve 6 = UNKNOWN", "serve -1 = UNKNOWN", "serve 2147483647 = UNKNOWN",
            "claim 3 0 yes = 1", "claim 0 0 yes = 2", "claim 4 0 yes = 3", "lend 0 1 0 10 = 0",
            "serve 0 = 3", "loan 1 0 = 0", "loan 1 1 = 3", "loan 1 3 = 64", "cell 0 4 = 2", "part 3 0 4 = NONE",
            "serve 0 = 0", "count 0 = 0", "count 1 = 2", "cell 0 4 = 1", "serve 0 = 4", "cell 0 7 = 4", "count 5 = 2",
            "serve 0 = NOT_POSSIBLE", "claim 4 0 yes = 1", "serve 0 = 4", "count 1 = 4", "count 7 = 4");
        Script.run("promise 10, of another owner",
            "handOver 0 2 = 0", "claim 0 0 yes = 1", "serve 0 = 0", "loan 0 0 = 2", "part 0 0 0 = 64",
            "claim 2 0 yes = 1", "serve 0 = 2", "count 0 = 0");
    }

    private static void serveHeld() {
        Script.run("promise 10, a reader holds on",
            "claim 3 0 yes = 1", "lend 0 1 0 10 = 0", "lend 0 2 0 10 = 1", "hold 1 0 yes = 0", "count 7 = 4",
            "serve 0 = 9", "part 2 0 0 = 0", "cell 0 4 = 1", "part 0 0 0 = 54", "serve 0 = NONE", "cell 0 4 = 1",
            "undo = 3", "part 2 0 0 = 10", "count 5 = 0");
        Script.run("promise 10, the owner holds on",
            "claim 0 0 yes = 1", "lend 0 1 0 10 = 0", "hold 0 0 yes = 0", "serve 0 = 9", "part 0 0 0 = 64",
            "serve 0 = NONE", "cell 0 5 = 0", "hold 0 0 no = 0", "serve 0 = 0");
        Script.run("promise 10, another one's claim while the owner holds on",
            "claim 3 0 yes = 1", "hold 0 0 yes = 0", "serve 0 = NONE", "count 7 = 2", "hold 0 0 no = 0", "serve 0 = 3");
    }

    private static void serveFull() {
        List<String> lines = new ArrayList<>();
        for (int loan = 0; loan < 40; loan++) {
            lines.add("lend 1 2 1 1 = " + loan);
        }
        lines.add("claim 3 0 yes = 1");
        lines.add("serve 0 = FULL");
        lines.add("serve 5 = NOT_POSSIBLE");
        lines.add("cell 0 4 = 1");
        lines.add("claim 0 0 yes = 2");
        lines.add("claim 3 0 no = 1");
        lines.add("serve 0 = 0");
        lines.add("giveBack 39 = 25");
        lines.add("lend 0 5 0 1 = 40");
        lines.add("lend 0 5 0 1 = FULL");
        lines.add("claim 3 0 yes = 1");
        lines.add("serve 0 = 3");
        lines.add("count 0 = 40");
        lines.add("hold 3 0 yes = 0");
        lines.add("claim 1 0 yes = 1");
        lines.add("serve 0 = NONE");
        lines.add("claim 1 1 yes = 1");
        lines.add("hold 2 1 yes = 0");
        lines.add("serve 1 = NONE");
        lines.add("hold 2 1 no = 0");
        lines.add("serve 1 = 1");
        lines.add("count 0 = 1");
        Script.run("promise 10, no room", lines.toArray(new String[0]));
    }

    private static void handOver() {
        Script.run("promise 11",
            "handOver 0 0 = NONE", "handOver 0 5 = 0", "cell 0 2 = 5", "part 5 0 0 = 64", "part 0 0 0 = 0",
            "handOver 0 5 = NONE", "handOver 5 0 = 5", "handOver 0 3 = 5", "count 7 = 3", "count 1 = 0",
            "handOver 6 0 = UNKNOWN", "handOver -1 0 = UNKNOWN", "handOver 0 6 = UNKNOWN", "handOver 0 -1 = UNKNOWN",
            "lend 3 1 0 1 = 0", "handOver 0 1 = NOT_POSSIBLE", "handOver 0 3 = NOT_POSSIBLE", "handOver 0 6 = UNKNOWN",
            "giveBack 0 = 64", "hold 3 0 yes = 0", "handOver 0 1 = NOT_POSSIBLE", "handOver 0 3 = NOT_POSSIBLE",
            "hold 3 0 no = 0", "lend 1 2 1 64 = 1", "handOver 0 1 = 3", "handOver 1 2 = NOT_POSSIBLE");
        Script.run("promise 11, with the whole back at the owner but loans that stand",
            "lend 0 1 0 64 = 0", "lend 1 0 0 64 = 1", "part 0 0 0 = 64", "handOver 0 1 = NOT_POSSIBLE",
            "gather 0 0 = 64", "handOver 0 1 = 0", "claim 0 0 yes = 1", "handOver 0 0 = 1", "serve 0 = 0", "write 0 0 1 = 1");
    }
}
