import java.util.ArrayDeque;
import java.util.ArrayList;
import java.util.Collections;
import java.util.Deque;
import java.util.List;
import java.util.regex.Matcher;
import java.util.regex.Pattern;

/**
 * The document written down a second time, as directly as its words allow and without a thought
 * for room or speed, so that long runs of calls can be compared with it.
 */
final class Model {
    private static final int UNKNOWN = -1;
    private static final int BAD_VALUE = -2;
    private static final int FULL = -3;
    private static final int NOT_POSSIBLE = -4;
    private static final int NONE = -5;
    private static final String ACT = "(?:l[0-5]>[0-5]:[0-5]/(?:[1-9]|[1-5][0-9]|6[0-4])"
        + "|b(?:0|[1-9][0-9]{0,2})|w[0-5]:[0-5]=(?:0|[1-9][0-9]{0,2})|g[0-5]:[0-5])";
    private static final Pattern TEXT = Pattern.compile(ACT + "(?:," + ACT + ")*");

    /** A loan never changes, so states can share it. */
    private static final class Loan {
        final int number;
        final int lender;
        final int borrower;
        final int cell;
        final int parts;

        Loan(int number, int lender, int borrower, int cell, int parts) {
            this.number = number;
            this.lender = lender;
            this.borrower = borrower;
            this.cell = cell;
            this.parts = parts;
        }
    }

    /** The parts that an agent holds follow from the owner and the loans that stand. */
    private static final class World {
        int[] value = new int[6];
        int[] version = new int[6];
        int[] owner = {0, 1, 2, 3, 4, 5};
        boolean[][] holds = new boolean[6][6];
        List<List<Integer>> claims = new ArrayList<>();
        List<Loan> loans = new ArrayList<>();
        int made;
        int back;
        int writes;

        World() {
            for (int cell = 0; cell < 6; cell++) {
                claims.add(new ArrayList<>());
            }
        }

        World copy() {
            World copy = new World();
            copy.value = value.clone();
            copy.version = version.clone();
            copy.owner = owner.clone();
            for (int agent = 0; agent < 6; agent++) {
                copy.holds[agent] = holds[agent].clone();
                copy.claims.get(agent).addAll(claims.get(agent));
            }
            copy.loans.addAll(loans);
            copy.made = made;
            copy.back = back;
            copy.writes = writes;
            return copy;
        }

        int parts(int agent, int cell) {
            int parts = owner[cell] == agent ? 64 : 0;
            for (Loan loan : loans) {
                if (loan.cell == cell) {
                    parts += (loan.borrower == agent ? loan.parts : 0) - (loan.lender == agent ? loan.parts : 0);
                }
            }
            return parts;
        }

        boolean full() {
            return loans.size() == 40 || made == 1000;
        }

        Loan find(int number) {
            for (Loan loan : loans) {
                if (loan.number == number) {
                    return loan;
                }
            }
            return null;
        }

        boolean canGoBack(Loan loan) {
            return parts(loan.borrower, loan.cell) >= loan.parts && !holds[loan.borrower][loan.cell];
        }

        void goBack(Loan loan) {
            loans.remove(loan);
            back++;
        }

        void gather(int agent, int cell, List<Integer> gathering) {
            gathering.add(agent);
            List<Loan> lent = new ArrayList<>();
            for (Loan loan : loans) {
                if (loan.lender == agent && loan.cell == cell) {
                    lent.add(loan);
                }
            }
            Collections.reverse(lent);
            for (Loan loan : lent) {
                if (parts(loan.borrower, cell) < loan.parts && !gathering.contains(loan.borrower)) {
                    gather(loan.borrower, cell, gathering);
                }
                if (canGoBack(loan)) {
                    goBack(loan);
                }
            }
            gathering.remove(Integer.valueOf(agent));
        }

        int longest(int cell, List<Integer> agents) {
            int longest = agents.size() - 1;
            for (Loan loan : loans) {
                boolean follows = loan.lender == agents.get(agents.size() - 1);
                if (loan.cell == cell && follows && !agents.contains(loan.borrower)) {
                    agents.add(loan.borrower);
                    longest = Math.max(longest, longest(cell, agents));
                    agents.remove(agents.size() - 1);
                }
            }
            return longest;
        }
    }

    private World world = new World();
    private World snapshot = null;
    private final Deque<World> history = new ArrayDeque<>();
    private String text = "";
    private int[] stop = null;

    Model() {
    }

    private static boolean six(int... numbers) {
        for (int number : numbers) {
            if (number < 0 || number > 5) {
                return false;
            }
        }
        return true;
    }

    private interface Act {
        int on(World world);
    }

    private int act(Act act) {
        World next = world.copy();
        int answer = act.on(next);
        if (answer >= 0) {
            history.addLast(world);
            if (history.size() > 4) {
                history.removeFirst();
            }
            world = next;
        }
        return answer;
    }

    private static int lend(World w, int from, int to, int cell, int parts) {
        if (!six(from, to, cell)) {
            return UNKNOWN;
        }
        if (parts < 1 || parts > 64 || from == to) {
            return BAD_VALUE;
        }
        if (w.parts(from, cell) < parts || w.holds[from][cell]) {
            return NOT_POSSIBLE;
        }
        if (w.full()) {
            return FULL;
        }
        w.loans.add(new Loan(w.made, from, to, cell, parts));
        return w.made++;
    }

    private static int half(World w, int from, int to, int cell) {
        if (!six(from, to, cell)) {
            return UNKNOWN;
        }
        if (from == to) {
            return BAD_VALUE;
        }
        if (w.parts(from, cell) < 2 || w.holds[from][cell]) {
            return NOT_POSSIBLE;
        }
        if (w.full()) {
            return FULL;
        }
        int parts = w.parts(from, cell) / 2;
        lend(w, from, to, cell, parts);
        return parts;
    }

    private static int giveBack(World w, int number) {
        Loan loan = w.find(number);
        if (loan == null) {
            return UNKNOWN;
        }
        if (!w.canGoBack(loan)) {
            return NOT_POSSIBLE;
        }
        w.goBack(loan);
        return w.parts(loan.lender, loan.cell);
    }

    private static int gather(World w, int agent, int cell) {
        if (!six(agent, cell)) {
            return UNKNOWN;
        }
        int before = w.back;
        w.gather(agent, cell, new ArrayList<>());
        return w.back == before ? NONE : w.parts(agent, cell);
    }

    private static int write(World w, int agent, int cell, int value) {
        if (!six(agent, cell)) {
            return UNKNOWN;
        }
        if (value < 0 || value > 999) {
            return BAD_VALUE;
        }
        if (w.parts(agent, cell) < 64) {
            return NOT_POSSIBLE;
        }
        w.value[cell] = value;
        w.writes++;
        return ++w.version[cell];
    }

    private static int hold(World w, int agent, int cell, boolean hold) {
        if (!six(agent, cell)) {
            return UNKNOWN;
        }
        if (hold && w.parts(agent, cell) < 1) {
            return NOT_POSSIBLE;
        }
        if (w.holds[agent][cell] == hold) {
            return NONE;
        }
        w.holds[agent][cell] = hold;
        return w.value[cell];
    }

    private static int claim(World w, int agent, int cell, boolean wants) {
        if (!six(agent, cell)) {
            return UNKNOWN;
        }
        List<Integer> claims = w.claims.get(cell);
        if (claims.contains(agent) == wants) {
            return NONE;
        }
        if (wants) {
            claims.add(agent);
        } else {
            claims.remove(Integer.valueOf(agent));
        }
        return claims.size();
    }

    private static int serve(World w, int cell) {
        if (!six(cell)) {
            return UNKNOWN;
        }
        List<Integer> claims = w.claims.get(cell);
        if (claims.isEmpty()) {
            return NOT_POSSIBLE;
        }
        int owner = w.owner[cell];
        int before = w.back;
        w.gather(owner, cell, new ArrayList<>());
        if (w.parts(owner, cell) < 64 || w.holds[owner][cell]) {
            return w.back == before ? NONE : 9;
        }
        if (claims.get(0) != owner && w.full()) {
            return FULL;
        }
        int agent = claims.remove(0);
        if (agent != owner) {
            lend(w, owner, agent, cell, 64);
        }
        return agent;
    }

    private static int handOver(World w, int cell, int to) {
        if (!six(cell, to)) {
            return UNKNOWN;
        }
        int owner = w.owner[cell];
        for (Loan loan : w.loans) {
            if (loan.cell == cell) {
                return NOT_POSSIBLE;
            }
        }
        if (w.holds[owner][cell]) {
            return NOT_POSSIBLE;
        }
        if (to == owner) {
            return NONE;
        }
        w.owner[cell] = to;
        return owner;
    }

    /** The place of the text's fault, or -1: the first sign with which no text that is fine begins. */
    static int fault(String text) {
        if (TEXT.matcher(text).matches()) {
            return -1;
        }
        for (int length = 1; length <= text.length(); length++) {
            Matcher matcher = TEXT.matcher(text.substring(0, length));
            if (!matcher.matches() && !matcher.hitEnd()) {
                return length - 1;
            }
        }
        return text.length();
    }

    private int performed(World w) {
        String[] acts = text.split(",");
        for (int i = 0; i < acts.length; i++) {
            int answer = performed(w, acts[i].charAt(0), acts[i].substring(1).split("[>:/=]"));
            if (answer < 0 && answer != NONE) {
                stop = new int[] {i, answer};
                return NOT_POSSIBLE;
            }
        }
        return acts.length;
    }

    private static int performed(World w, char kind, String[] words) {
        int[] n = new int[4];
        for (int i = 0; i < words.length; i++) {
            n[i] = Integer.parseInt(words[i]);
        }
        switch (kind) {
            case 'l': return lend(w, n[0], n[1], n[2], n[3]);
            case 'b': return giveBack(w, n[0]);
            case 'w': return write(w, n[0], n[1], n[2]);
            default: return gather(w, n[0], n[1]);
        }
    }

    int lend(int from, int to, int cell, int parts) {
        return act(w -> lend(w, from, to, cell, parts));
    }

    int half(int from, int to, int cell) {
        return act(w -> half(w, from, to, cell));
    }

    int giveBack(int loan) {
        return act(w -> giveBack(w, loan));
    }

    int gather(int agent, int cell) {
        return act(w -> gather(w, agent, cell));
    }

    int hold(int agent, int cell, boolean hold) {
        return act(w -> hold(w, agent, cell, hold));
    }

    int write(int agent, int cell, int value) {
        return act(w -> write(w, agent, cell, value));
    }

    int read(int agent, int cell) {
        if (!six(agent, cell)) {
            return UNKNOWN;
        }
        return world.parts(agent, cell) == 0 ? NOT_POSSIBLE : world.value[cell];
    }

    int claim(int agent, int cell, boolean wants) {
        return act(w -> claim(w, agent, cell, wants));
    }

    int serve(int cell) {
        return act(w -> serve(w, cell));
    }

    int handOver(int cell, int to) {
        return act(w -> handOver(w, cell, to));
    }

    int type(char character) {
        if (text.length() == 60) {
            return FULL;
        }
        text += character;
        return text.length();
    }

    int clearText() {
        int length = text.length();
        text = "";
        return length;
    }

    int perform() {
        int fault = fault(text);
        return fault >= 0 ? -100 - fault : act(this::performed);
    }

    int stop(int what) {
        if (what != 0 && what != 1) {
            return BAD_VALUE;
        }
        return stop == null ? NONE : stop[what];
    }

    int undo() {
        if (history.isEmpty()) {
            return NONE;
        }
        world = history.removeLast();
        return history.size();
    }

    int keep() {
        snapshot = world.copy();
        return world.loans.size();
    }

    int restore() {
        if (snapshot == null) {
            return NONE;
        }
        act(w -> 0);
        world = snapshot.copy();
        return world.loans.size();
    }

    int cell(int cell, int what) {
        if (!six(cell)) {
            return UNKNOWN;
        }
        int readers = 0;
        int whole = NONE;
        int holding = 0;
        int loans = 0;
        for (int agent = 0; agent < 6; agent++) {
            readers += world.parts(agent, cell) > 0 ? 1 : 0;
            whole = world.parts(agent, cell) == 64 ? agent : whole;
            holding += world.holds[agent][cell] ? 1 : 0;
        }
        for (Loan loan : world.loans) {
            loans += loan.cell == cell ? 1 : 0;
        }
        List<Integer> claims = world.claims.get(cell);
        int first = claims.isEmpty() ? NONE : claims.get(0);
        int[] told = {world.value[cell], world.version[cell], world.owner[cell], readers, claims.size(), first, loans, whole, holding};
        return what < 0 || what >= told.length ? BAD_VALUE : told[what];
    }

    int part(int agent, int cell, int what) {
        if (!six(agent, cell)) {
            return UNKNOWN;
        }
        int lent = 0;
        int borrowed = 0;
        for (Loan loan : world.loans) {
            lent += loan.cell == cell && loan.lender == agent ? loan.parts : 0;
            borrowed += loan.cell == cell && loan.borrower == agent ? loan.parts : 0;
        }
        int place = world.claims.get(cell).indexOf(agent);
        World gathered = world.copy();
        gathered.gather(agent, cell, new ArrayList<>());
        int[] told = {world.parts(agent, cell), lent, borrowed, world.holds[agent][cell] ? 1 : 0, place < 0 ? NONE : place, gathered.parts(agent, cell)};
        return what < 0 || what >= told.length ? BAD_VALUE : told[what];
    }

    int loan(int number, int what) {
        Loan loan = world.find(number);
        if (loan == null) {
            return UNKNOWN;
        }
        int[] told = {loan.lender, loan.borrower, loan.cell, loan.parts, world.canGoBack(loan) ? 1 : 0};
        return what < 0 || what >= told.length ? BAD_VALUE : told[what];
    }

    int reason(int agent, int cell) {
        if (!six(agent, cell)) {
            return UNKNOWN;
        }
        if (part(agent, cell, 5) == 64) {
            return 0;
        }
        return cell(cell, 8) > 0 ? 1 : 2;
    }

    int chain(int cell) {
        if (!six(cell)) {
            return UNKNOWN;
        }
        int longest = 0;
        for (int agent = 0; agent < 6; agent++) {
            longest = Math.max(longest, world.longest(cell, new ArrayList<>(List.of(agent))));
        }
        return longest;
    }

    int count(int what) {
        int whole = 0;
        int claims = 0;
        int holding = 0;
        for (int cell = 0; cell < 6; cell++) {
            whole += cell(cell, 7) != NONE ? 1 : 0;
            claims += cell(cell, 4);
            holding += cell(cell, 8);
        }
        int[] told = {world.loans.size(), world.made, whole, claims, world.writes, world.back, holding, history.size(), text.length()};
        return what < 0 || what >= told.length ? BAD_VALUE : told[what];
    }
}
