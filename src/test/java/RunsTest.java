import java.util.ArrayList;
import java.util.List;

/** All promises: long runs of calls, always the same ones, compared with Model. */
public final class RunsTest {
    private static final int RUNS = 1500;
    private static final int CALLS = 512;
    private static final int SWEEP = 325;

    private long seed;
    private final Calls program = new Calls(LentParts.class);
    private final Calls model = new Calls(Model.class);
    private final List<String> said = new ArrayList<>();
    private final int busyCell;
    private final int readers;
    private final boolean fills;

    private RunsTest(int run) {
        seed = run * 7919L + 17;
        busyCell = pick(6);
        readers = pick(4);
        fills = pick(4) == 0;
    }

    public static void main(String[] args) {
        for (int run = 0; run < RUNS && Due.wrong() == 0; run++) {
            new RunsTest(run).run(run);
        }
        Due.end();
    }

    private void run(int run) {
        boolean sweeps = run % 2 == 0;
        while (said.size() < (sweeps ? CALLS - SWEEP : CALLS) && Due.wrong() == 0) {
            step();
        }
        if (sweeps) {
            sweep();
        }
        if (Due.wrong() > 0) {
            System.out.println("run " + run + ": " + said);
        }
    }

    /** A number from 0, of a row of numbers that is the same each time. */
    private int pick(int bound) {
        seed = seed * 6364136223846793005L + 1442695040888963407L;
        return (int) ((seed >>> 33) % bound);
    }

    private int same(String name, int... numbers) {
        int got = program.call(name, numbers);
        int due = model.call(name, numbers);
        said.add(name + java.util.Arrays.toString(numbers) + "=" + got);
        Due.is("call " + said.size() + ", " + name + java.util.Arrays.toString(numbers), got, due);
        return due;
    }

    private int agent() {
        return pick(60) == 0 ? pick(2) * 7 - 1 : pick(6);
    }

    private int another(int agent) {
        return pick(20) == 0 ? agent() : Math.floorMod(agent + 1 + pick(5), 6);
    }

    private int cell() {
        return pick(60) == 0 ? pick(2) * 7 - 1 : pick(5) == 0 ? pick(6) : busyCell;
    }

    private int parts(int from, int cell) {
        int held = model.call("part", from, cell, 0);
        switch (pick(8)) {
            case 0: return pick(67) - 1;
            case 1: return Math.max(held, 1);
            case 2: return held + 1;
            case 3: return Math.max(held / 2, 1);
            default: return 1 + pick(Math.max(held / 2, 1));
        }
    }

    /** An agent that holds parts of the cell, if chance finds one. */
    private int holder(int cell) {
        for (int tries = 0; tries < 4; tries++) {
            int agent = agent();
            if (model.call("part", agent, cell, 0) > 0) {
                return agent;
            }
        }
        return agent();
    }

    private int loan() {
        return pick(30) == 0 ? pick(1002) - 1 : Math.max(0, model.call("count", 1) - 1 - pick(30));
    }

    private void step() {
        int cell = cell();
        int from = holder(cell);
        switch (fills ? pick(7) * pick(4) : pick(20)) {
            case 0: case 1: case 2: case 3: case 4:
                same("lend", from, another(from), cell, parts(from, cell));
                break;
            case 5: same("half", from, another(from), cell); break;
            case 6: same("giveBack", loan()); break;
            case 7: gathering(cell); break;
            case 8: same("hold", holder(cell), cell, pick(4) < readers ? 1 : 0); break;
            case 9: writing(cell); break;
            case 10: same("claim", agent(), cell, pick(3) == 0 ? 0 : 1); break;
            case 11: serving(cell); break;
            case 12: text(); break;
            case 13: past(); break;
            default: tell(cell);
        }
    }

    private void gathering(int cell) {
        if (pick(2) == 0) {
            same("gather", agent(), cell);
        }
    }

    private void writing(int cell) {
        int whole = model.call("cell", cell, 7);
        same("write", whole >= 0 && pick(3) > 0 ? whole : agent(), cell, pick(20) == 0 ? pick(2) * 1001 - 1 : pick(1000));
        same("read", agent(), cell);
    }

    private void serving(int cell) {
        if (pick(3) == 0) {
            same("serve", cell);
        } else if (pick(2) == 0) {
            same("handOver", cell, agent());
        }
    }

    private void past() {
        switch (pick(6)) {
            case 0: same("keep"); break;
            case 1: same("restore"); break;
            default: same("undo");
        }
    }

    private String act() {
        int cell = pick(6) == 0 ? pick(6) : busyCell;
        int from = holder(cell);
        switch (pick(6)) {
            case 0: return "b" + loan();
            case 1: return "w" + Math.max(0, model.call("cell", cell, 7)) + ":" + cell + "=" + pick(1001);
            case 2: return "g" + pick(6) + ":" + cell;
            default: return "l" + from + ">" + another(from) + ":" + cell + "/" + Math.max(1, model.call("part", from, cell, 0) / 3);
        }
    }

    private void text() {
        if (pick(3) > 0) {
            same("perform");
            same("stop", pick(2));
            return;
        }
        StringBuilder text = new StringBuilder(act());
        for (int more = pick(5); more > 0; more--) {
            text.append(pick(40) == 0 ? ";" : ",").append(act());
        }
        if (pick(5) == 0) {
            text.setCharAt(pick(text.length()), (char) (44 + pick(16)));
        }
        if (said.size() + text.length() + SWEEP > CALLS) {
            return;
        }
        same("clearText");
        for (int i = 0; i < text.length(); i++) {
            same("type", text.charAt(i));
        }
        same("perform");
        same("stop", 0);
        same("stop", 1);
    }

    private void tell(int cell) {
        switch (pick(6)) {
            case 0: same("cell", cell, pick(11) - 1); break;
            case 1: same("part", agent(), cell, pick(8) - 1); break;
            case 2: same("loan", loan(), pick(7) - 1); break;
            case 3: same("reason", agent(), cell); break;
            case 4: same("chain", cell); break;
            default: same("count", pick(11) - 1);
        }
    }

    private void sweep() {
        for (int cell = 0; cell < 6; cell++) {
            for (int what = 0; what < 9; what++) {
                same("cell", cell, what);
            }
            for (int agent = 0; agent < 6; agent++) {
                for (int what = 0; what < 6; what++) {
                    same("part", agent, cell, what);
                }
                same("reason", agent, cell);
            }
            same("chain", cell);
        }
        for (int what = 0; what < 9; what++) {
            same("count", what);
        }
    }
}
