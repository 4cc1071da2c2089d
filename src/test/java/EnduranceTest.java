import java.lang.management.ManagementFactory;
import java.lang.management.ThreadMXBean;

/** An object bears 512 calls, the dearest ones too, and keeps its limits; its calls make nothing. */
public final class EnduranceTest {
    private static final int CALLS = 512;

    private EnduranceTest() {
    }

    public static void main(String[] args) {
        sideBySide();
        everyoneToEveryone();
        thousandLoans();
        manyStates();
        fullTexts();
        anyNumbers();
        room();
        Due.end();
    }

    /** Eight loans side by side from each agent to the next, and the last one holds on. */
    private static LentParts longLine() {
        LentParts x = new LentParts();
        for (int agent = 0; agent < 5; agent++) {
            for (int loan = 0; loan < 8; loan++) {
                Due.is("lend in a line", x.lend(agent, agent + 1, 0, 8), agent * 8 + loan);
            }
        }
        Due.is("hold at the line's end", x.hold(5, 0, true), 0);
        return x;
    }

    private static void sideBySide() {
        LentParts x = longLine();
        for (int call = 41; call + 5 <= CALLS - 2; call += 5) {
            Due.is("gather in a line", x.gather(0, 0), LentParts.NONE);
            Due.is("part in a line", x.part(0, 0, 5), 0);
            Due.is("reason in a line", x.reason(0, 0), 1);
            Due.is("chain in a line", x.chain(0), 5);
            Due.is("count in a line", x.count(0), 40);
        }
        Due.is("hold no longer", x.hold(5, 0, false), 0);
        Due.is("gather at last", x.gather(0, 0), 64);
    }

    /** 30 loans, one from each agent to each other, and ten more; then all that can be gathered. */
    private static void everyoneToEveryone() {
        Calls program = new Calls(LentParts.class);
        Calls model = new Calls(Model.class);
        String where = "everyone to everyone";
        for (int loan = 0; loan < 40; loan++) {
            int from = loan % 6;
            int to = (from + 1 + loan / 6 % 5) % 6;
            int parts = Math.max(1, model.call("part", from, 0, 0) - loan % 2);
            Due.is(where, program.call("lend", from, to, 0, parts), model.call("lend", from, to, 0, parts));
        }
        for (int held = 0; held < 6; held++) {
            Due.is(where, program.call("hold", held, 0, 1), model.call("hold", held, 0, 1));
            for (int agent = 0; agent < 6; agent++) {
                Due.is(where, program.call("part", agent, 0, 5), model.call("part", agent, 0, 5));
                Due.is(where, program.call("reason", agent, 0), model.call("reason", agent, 0));
                Due.is(where, program.call("gather", agent, 0), model.call("gather", agent, 0));
                Due.is(where, program.call("undo"), model.call("undo"));
            }
            Due.is(where, program.call("chain", 0), model.call("chain", 0));
            Due.is(where, program.call("hold", held, 0, 0), model.call("hold", held, 0, 0));
        }
    }

    private static void type(LentParts x, String text) {
        for (int i = 0; i < text.length(); i++) {
            Due.is("type", x.type(text.charAt(i)), i + 1);
        }
    }

    private static void thousandLoans() {
        LentParts x = new LentParts();
        type(x, "l0>1:0/9,l0>1:0/9,l0>1:0/9,l0>1:0/9,l0>1:0/9,g0:0");
        for (int turn = 0; turn < 199; turn++) {
            Due.is("perform, turn " + turn, x.perform(), 6);
        }
        Due.is("loan 995", x.lend(2, 3, 2, 9), 995);
        Due.is("perform at 996", x.perform(), LentParts.NOT_POSSIBLE);
        Due.is("stop at 996", x.stop(0), 4);
        Due.is("its error", x.stop(1), LentParts.FULL);
        for (int loan = 996; loan < 1000; loan++) {
            Due.is("loan " + loan, x.lend(0, 1, 0, 9), loan);
        }
        Due.is("loan 1000", x.lend(0, 1, 0, 9), LentParts.FULL);
        Due.is("half as loan 1000", x.half(4, 1, 4), LentParts.FULL);
        Due.is("loan 999 stands", x.loan(999, 3), 9);
        afterThousand(x);
    }

    private static void afterThousand(LentParts x) {
        Due.is("claim", x.claim(4, 0, true), 1);
        Due.is("serve without a number left", x.serve(0), LentParts.FULL);
        Due.is("nothing is gathered by that", x.part(1, 0, 0), 36);
        Due.is("nothing is given back by that", x.count(5), 995);
        Due.is("the claim is there", x.cell(0, 4), 1);
        Due.is("hold", x.hold(1, 0, true), 0);
        Due.is("serve where the whole is not got", x.serve(0), LentParts.NONE);
        Due.is("hold", x.hold(1, 0, false), 0);
        Due.is("claim", x.claim(0, 0, true), 2);
        Due.is("claim", x.claim(4, 0, false), 1);
        Due.is("serve of the owner", x.serve(0), 0);
        Due.is("loans made", x.count(1), 1000);
        Due.is("loans given back", x.count(5), 999);
        x.clearText();
        type(x, "b995,b999");
        Due.is("perform", x.perform(), LentParts.NOT_POSSIBLE);
        Due.is("stop", x.stop(0), 1);
        Due.is("undo", x.undo(), 3);
        Due.is("undo", x.undo(), 2);
        Due.is("perform", x.perform(), 2);
        Due.is("loan 999", x.loan(999, 0), LentParts.UNKNOWN);
        Due.is("still no number left", x.lend(0, 1, 0, 1), LentParts.FULL);
    }

    private static void manyStates() {
        LentParts x = longLine();
        Due.is("keep", x.keep(), 40);
        for (int turn = 0; turn < 78; turn++) {
            Due.is("hold", x.hold(5, 0, false), 0);
            Due.is("gather", x.gather(0, 0), 64);
            Due.is("restore", x.restore(), 40);
            Due.is("undo", x.undo(), 3);
            Due.is("count", x.count(0), 0);
            Due.is("restore", x.restore(), 40);
        }
        Due.is("count", x.count(0), 40);
    }

    private static void fullTexts() {
        LentParts x = new LentParts();
        type(x, "w0:0=1,w0:0=2,w0:0=3,w0:0=4,w0:0=5,w0:0=6,w0:0=7,w0:0=888");
        for (int turn = 1; turn <= CALLS - 60; turn++) {
            Due.is("perform", x.perform(), 8);
        }
        Due.is("count", x.count(4), 8 * (CALLS - 60));
        Due.is("cell", x.cell(0, 1), 8 * (CALLS - 60));
    }

    /** No call may throw or fail to end, whatever its arguments are; also behind the last call of which anything is promised. */
    private static void anyNumbers() {
        int[] numbers = {Integer.MIN_VALUE, -1000, -7, -1, 0, 1, 2, 3, 4, 5, 6, 7, 8, 9, 39, 40, 63, 64, 65, 999, 1000, 1 << 30, Integer.MAX_VALUE};
        String[] names = {
            "lend", "half", "giveBack", "gather", "hold", "write", "read", "claim", "serve", "handOver", "type", "perform", "stop", "undo", "keep",
            "restore", "cell", "part", "loan", "reason", "chain", "count", "lend", "half", "clearText",
        };
        int[] arguments = {4, 3, 1, 2, 3, 3, 2, 3, 1, 2, 1, 0, 1, 0, 0, 0, 2, 3, 2, 2, 1, 1, 4, 3, 0};
        Calls object = new Calls(LentParts.class);
        long seed = 1;
        int answers = 0;
        for (int call = 0; call < 200_000; call++) {
            seed = seed * 6364136223846793005L + 1442695040888963407L;
            int name = (int) ((seed >>> 33) % names.length);
            int[] given = new int[arguments[name]];
            for (int i = 0; i < given.length; i++) {
                seed = seed * 6364136223846793005L + 1442695040888963407L;
                int choice = (int) (seed >>> 33);
                given[i] = choice % 10 == 0 ? numbers[choice / 10 % numbers.length] : numbers[4 + choice / 10 % 6];
            }
            object.call(names[name], given);
            answers++;
        }
        Due.is("answers to any numbers", answers, 200_000);
    }

    /** Rows are made with the object and used again. */
    private static void room() {
        ThreadMXBean threads = ManagementFactory.getThreadMXBean();
        if (!(threads instanceof com.sun.management.ThreadMXBean)) {
            System.out.println("this machine does not tell what is made");
            return;
        }
        com.sun.management.ThreadMXBean counter = (com.sun.management.ThreadMXBean) threads;
        long thread = Thread.currentThread().getId();
        counter.getThreadAllocatedBytes(thread);
        long start = counter.getThreadAllocatedBytes(thread);
        LentParts x = new LentParts();
        long made = counter.getThreadAllocatedBytes(thread);
        for (int call = 0; call < 100; call++) {
            x.lend(0, 1, 0, 1);
            x.gather(0, 0);
            x.part(0, 0, 5);
            x.chain(0);
            x.perform();
        }
        long called = counter.getThreadAllocatedBytes(thread);
        Due.holds("a new object takes little room: " + (made - start), made - start < 100_000);
        Due.holds("calls take no room: " + (called - made), called - made < 50_000);
    }
}
