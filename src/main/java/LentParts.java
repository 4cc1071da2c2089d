import java.util.Arrays;

/** Cells whose 64 parts are held by agents, lent on, given back and gathered. */
public final class LentParts {
    /** There is no such agent, cell or loan. */
    public static final int UNKNOWN = -1;
    /** Another argument is out of range. */
    public static final int BAD_VALUE = -2;
    /** There is no more room. */
    public static final int FULL = -3;
    /** This is not possible. */
    public static final int NOT_POSSIBLE = -4;
    /** There is no such thing; not an error. */
    public static final int NONE = -5;

    private static final int CELLS = 6;
    private static final int AGENTS = 6;
    private static final int WHOLE = 64;
    private static final int MAX_VALUE = 999;
    private static final int MAX_LOANS = 40;
    private static final int MAX_MADE = 1000;
    private static final int MAX_TEXT = 60;
    private static final int MAX_STATES = 4;
    private static final int ONLY_GATHERED = 9;
    private static final int TEXT_FAULT = -100;

    private final State now = new State();
    private final State trial = new State();
    private final State snapshot = new State();
    private final History history = new History();
    private final Gathering gathering = new Gathering();
    private final Text text = new Text();
    private boolean kept;
    private boolean stopped;
    private int stoppedAct;
    private int stoppedBy;

    public LentParts() {
    }

    // ---- loans

    public int lend(int from, int to, int cell, int parts) {
        history.open(now);
        return close(now.makeLoan(from, to, cell, parts));
    }

    public int half(int from, int to, int cell) {
        history.open(now);
        return close(now.makeHalfLoan(from, to, cell));
    }

    public int giveBack(int loan) {
        history.open(now);
        return close(now.endLoan(loan));
    }

    public int gather(int agent, int cell) {
        history.open(now);
        return close(gatherCell(agent, cell));
    }

    // ---- reading and writing

    public int hold(int agent, int cell, boolean hold) {
        history.open(now);
        return close(now.setHolding(agent, cell, hold));
    }

    public int write(int agent, int cell, int value) {
        history.open(now);
        return close(now.writeValue(agent, cell, value));
    }

    public int read(int agent, int cell) {
        if (!isAgent(agent) || !isCell(cell)) {
            return UNKNOWN;
        }
        return now.heldBy(agent, cell) == 0 ? NOT_POSSIBLE : now.value[cell];
    }

    // ---- claims

    public int claim(int agent, int cell, boolean wants) {
        history.open(now);
        return close(now.setClaim(agent, cell, wants));
    }

    public int serve(int cell) {
        history.open(now);
        return close(serveClaims(cell));
    }

    public int handOver(int cell, int to) {
        history.open(now);
        return close(now.changeOwner(cell, to));
    }

    // ---- texts

    public int type(char character) {
        return text.append(character);
    }

    public int clearText() {
        return text.empty();
    }

    public int perform() {
        int fault = text.findFault();
        if (fault >= 0) {
            return TEXT_FAULT - fault;
        }
        history.open(now);
        for (int act = 0; act < text.acts; act++) {
            int answer = performAct(act * Text.SLOTS);
            if (answer < 0 && answer != NONE) {
                noteStop(act, answer);
                return close(NOT_POSSIBLE);
            }
        }
        return close(text.acts);
    }

    public int stop(int what) {
        if (what < 0 || what > 1) {
            return BAD_VALUE;
        }
        if (!stopped) {
            return NONE;
        }
        return what == 0 ? stoppedAct : stoppedBy;
    }

    // ---- history

    public int undo() {
        State latest = history.takeLatest();
        if (latest == null) {
            return NONE;
        }
        now.copyFrom(latest);
        return history.size();
    }

    public int keep() {
        snapshot.copyFrom(now);
        kept = true;
        return now.loans.standing;
    }

    public int restore() {
        if (!kept) {
            return NONE;
        }
        history.open(now);
        now.copyFrom(snapshot);
        return close(now.loans.standing);
    }

    // ---- what is told

    public int cell(int cell, int what) {
        if (!isCell(cell)) {
            return UNKNOWN;
        }
        switch (what) {
            case 0: return now.value[cell];
            case 1: return now.version[cell];
            case 2: return now.owner[cell];
            case 3: return now.countReaders(cell);
            case 4: return now.claims.size(cell);
            case 5: return now.claims.first(cell);
            case 6: return now.loans.countOf(cell);
            case 7: return now.holderOfWhole(cell);
            case 8: return now.countHolding(cell);
            default: return BAD_VALUE;
        }
    }

    public int part(int agent, int cell, int what) {
        if (!isAgent(agent) || !isCell(cell)) {
            return UNKNOWN;
        }
        switch (what) {
            case 0: return now.heldBy(agent, cell);
            case 1: return now.loans.partsLent(agent, cell);
            case 2: return now.loans.partsBorrowed(agent, cell);
            case 3: return now.isHolding(agent, cell) ? 1 : 0;
            case 4: return now.claims.placeOf(agent, cell);
            case 5: return heldAfterGathering(agent, cell);
            default: return BAD_VALUE;
        }
    }

    public int loan(int loan, int what) {
        int row = now.loans.rowOf(loan);
        if (row < 0) {
            return UNKNOWN;
        }
        switch (what) {
            case 0: return now.loans.lender[row];
            case 1: return now.loans.borrower[row];
            case 2: return now.loans.cell[row];
            case 3: return now.loans.parts[row];
            case 4: return now.canEndLoan(row) ? 1 : 0;
            default: return BAD_VALUE;
        }
    }

    public int reason(int agent, int cell) {
        if (!isAgent(agent) || !isCell(cell)) {
            return UNKNOWN;
        }
        if (heldAfterGathering(agent, cell) == WHOLE) {
            return 0;
        }
        return now.countHolding(cell) > 0 ? 1 : 2;
    }

    public int chain(int cell) {
        return isCell(cell) ? now.loans.longestChain(cell) : UNKNOWN;
    }

    public int count(int what) {
        switch (what) {
            case 0: return now.loans.standing;
            case 1: return now.loans.made;
            case 2: return now.countWholeCells();
            case 3: return now.claims.sizeOfAll();
            case 4: return now.writes;
            case 5: return now.loans.ended;
            case 6: return now.countAllHolding();
            case 7: return history.size();
            case 8: return text.size();
            default: return BAD_VALUE;
        }
    }

    // ---- acts

    /** Ends an act: an answer below 0 is an error or NONE, and then nothing has changed. */
    private int close(int answer) {
        if (answer < 0) {
            now.copyFrom(history.opened());
        } else {
            history.record();
        }
        return answer;
    }

    private int gatherCell(int agent, int cell) {
        if (!isAgent(agent) || !isCell(cell)) {
            return UNKNOWN;
        }
        int ended = gathering.run(now, agent, cell);
        return ended == 0 ? NONE : now.heldBy(agent, cell);
    }

    private int heldAfterGathering(int agent, int cell) {
        trial.copyFrom(now);
        gathering.run(trial, agent, cell);
        return trial.heldBy(agent, cell);
    }

    private int serveClaims(int cell) {
        if (!isCell(cell)) {
            return UNKNOWN;
        }
        if (now.claims.size(cell) == 0) {
            return NOT_POSSIBLE;
        }
        int owner = now.owner[cell];
        int ended = gathering.run(now, owner, cell);
        if (now.heldBy(owner, cell) == WHOLE && !now.isHolding(owner, cell)) {
            return now.grantFirstClaim(cell);
        }
        return ended == 0 ? NONE : ONLY_GATHERED;
    }

    private void noteStop(int act, int error) {
        stopped = true;
        stoppedAct = act;
        stoppedBy = error;
    }

    private int performAct(int row) {
        int[] slots = text.slots;
        switch (slots[row]) {
            case 'l': return now.makeLoan(slots[row + 1], slots[row + 2], slots[row + 3], slots[row + 4]);
            case 'b': return now.endLoan(slots[row + 1]);
            case 'w': return now.writeValue(slots[row + 1], slots[row + 2], slots[row + 3]);
            case 'g': return gatherCell(slots[row + 1], slots[row + 2]);
            default: return NONE;
        }
    }

    private static boolean isAgent(int agent) {
        return agent >= 0 && agent < AGENTS;
    }

    private static boolean isCell(int cell) {
        return cell >= 0 && cell < CELLS;
    }

    /** All that undo() and restore() bring back. */
    private static final class State {
        final int[] value = new int[CELLS];
        final int[] version = new int[CELLS];
        final int[] owner = new int[CELLS];
        final int[] held = new int[CELLS * AGENTS];
        /** For each cell the agents that hold on to it, a bit for each. */
        final int[] holding = new int[CELLS];
        final Claims claims = new Claims();
        final Loans loans = new Loans();
        int writes;

        State() {
            for (int cell = 0; cell < CELLS; cell++) {
                owner[cell] = cell;
                held[cell * AGENTS + cell] = WHOLE;
            }
        }

        void copyFrom(State other) {
            System.arraycopy(other.value, 0, value, 0, CELLS);
            System.arraycopy(other.version, 0, version, 0, CELLS);
            System.arraycopy(other.owner, 0, owner, 0, CELLS);
            System.arraycopy(other.held, 0, held, 0, CELLS * AGENTS);
            System.arraycopy(other.holding, 0, holding, 0, CELLS);
            claims.copyFrom(other.claims);
            loans.copyFrom(other.loans);
            writes = other.writes;
        }

        int heldBy(int agent, int cell) {
            return held[cell * AGENTS + agent];
        }

        boolean isHolding(int agent, int cell) {
            return (holding[cell] & (1 << agent)) != 0;
        }

        int makeLoan(int from, int to, int cell, int parts) {
            if (!isAgent(from) || !isAgent(to) || !isCell(cell)) {
                return UNKNOWN;
            }
            if (parts < 1 || parts > WHOLE || from == to) {
                return BAD_VALUE;
            }
            if (heldBy(from, cell) < parts || isHolding(from, cell)) {
                return NOT_POSSIBLE;
            }
            if (!loans.hasRoom()) {
                return FULL;
            }
            moveParts(from, to, cell, parts);
            return loans.append(from, to, cell, parts);
        }

        int makeHalfLoan(int from, int to, int cell) {
            if (!isAgent(from) || !isAgent(to) || !isCell(cell)) {
                return UNKNOWN;
            }
            if (from == to) {
                return BAD_VALUE;
            }
            int parts = heldBy(from, cell) / 2;
            if (parts == 0) {
                return NOT_POSSIBLE;
            }
            int answer = makeLoan(from, to, cell, parts);
            return answer < 0 ? answer : parts;
        }

        int endLoan(int number) {
            int row = loans.rowOf(number);
            if (row < 0) {
                return UNKNOWN;
            }
            if (!canEndLoan(row)) {
                return NOT_POSSIBLE;
            }
            int lender = loans.lender[row];
            int cell = loans.cell[row];
            moveParts(loans.borrower[row], lender, cell, loans.parts[row]);
            loans.remove(row);
            return heldBy(lender, cell);
        }

        boolean canEndLoan(int row) {
            int borrower = loans.borrower[row];
            int cell = loans.cell[row];
            return heldBy(borrower, cell) >= loans.parts[row] && !isHolding(borrower, cell);
        }

        private void moveParts(int from, int to, int cell, int parts) {
            held[cell * AGENTS + from] -= parts;
            held[cell * AGENTS + to] += parts;
        }

        int setHolding(int agent, int cell, boolean hold) {
            if (!isAgent(agent) || !isCell(cell)) {
                return UNKNOWN;
            }
            if (hold && heldBy(agent, cell) == 0) {
                return NOT_POSSIBLE;
            }
            if (hold == isHolding(agent, cell)) {
                return NONE;
            }
            holding[cell] ^= 1 << agent;
            return value[cell];
        }

        int writeValue(int agent, int cell, int newValue) {
            if (!isAgent(agent) || !isCell(cell)) {
                return UNKNOWN;
            }
            if (newValue < 0 || newValue > MAX_VALUE) {
                return BAD_VALUE;
            }
            if (heldBy(agent, cell) != WHOLE) {
                return NOT_POSSIBLE;
            }
            value[cell] = newValue;
            version[cell]++;
            writes++;
            return version[cell];
        }

        int setClaim(int agent, int cell, boolean wants) {
            if (!isAgent(agent) || !isCell(cell)) {
                return UNKNOWN;
            }
            int place = claims.placeOf(agent, cell);
            if (wants == (place >= 0)) {
                return NONE;
            }
            if (wants) {
                claims.append(agent, cell);
            } else {
                claims.remove(cell, place);
            }
            return claims.size(cell);
        }

        /** Needs a claim, and the whole with an owner that does not hold on. */
        int grantFirstClaim(int cell) {
            int agent = claims.first(cell);
            if (agent != owner[cell]) {
                int answer = makeLoan(owner[cell], agent, cell, WHOLE);
                if (answer < 0) {
                    return answer;
                }
            }
            claims.remove(cell, 0);
            return agent;
        }

        int changeOwner(int cell, int to) {
            if (!isCell(cell) || !isAgent(to)) {
                return UNKNOWN;
            }
            int previous = owner[cell];
            if (loans.countOf(cell) > 0 || isHolding(previous, cell)) {
                return NOT_POSSIBLE;
            }
            if (to == previous) {
                return NONE;
            }
            moveParts(previous, to, cell, WHOLE);
            owner[cell] = to;
            return previous;
        }

        int countReaders(int cell) {
            int readers = 0;
            for (int agent = 0; agent < AGENTS; agent++) {
                if (heldBy(agent, cell) > 0) {
                    readers++;
                }
            }
            return readers;
        }

        int holderOfWhole(int cell) {
            for (int agent = 0; agent < AGENTS; agent++) {
                if (heldBy(agent, cell) == WHOLE) {
                    return agent;
                }
            }
            return NONE;
        }

        int countWholeCells() {
            int cells = 0;
            for (int cell = 0; cell < CELLS; cell++) {
                if (holderOfWhole(cell) != NONE) {
                    cells++;
                }
            }
            return cells;
        }

        int countHolding(int cell) {
            return Integer.bitCount(holding[cell]);
        }

        int countAllHolding() {
            int pairs = 0;
            for (int cell = 0; cell < CELLS; cell++) {
                pairs += countHolding(cell);
            }
            return pairs;
        }
    }

    /** The claims of each cell, in their order. */
    private static final class Claims {
        private final int[] agents = new int[CELLS * AGENTS];
        private final int[] sizes = new int[CELLS];

        void copyFrom(Claims other) {
            System.arraycopy(other.agents, 0, agents, 0, CELLS * AGENTS);
            System.arraycopy(other.sizes, 0, sizes, 0, CELLS);
        }

        int size(int cell) {
            return sizes[cell];
        }

        int sizeOfAll() {
            int all = 0;
            for (int cell = 0; cell < CELLS; cell++) {
                all += sizes[cell];
            }
            return all;
        }

        int first(int cell) {
            return sizes[cell] == 0 ? NONE : agents[cell * AGENTS];
        }

        int placeOf(int agent, int cell) {
            for (int place = 0; place < sizes[cell]; place++) {
                if (agents[cell * AGENTS + place] == agent) {
                    return place;
                }
            }
            return NONE;
        }

        /** Needs an agent without a claim for the cell: so the cell's row has room. */
        void append(int agent, int cell) {
            agents[cell * AGENTS + sizes[cell]] = agent;
            sizes[cell]++;
        }

        void remove(int cell, int place) {
            int start = cell * AGENTS;
            sizes[cell]--;
            for (int next = place; next < sizes[cell]; next++) {
                agents[start + next] = agents[start + next + 1];
            }
        }
    }

    /** The loans that stand, in the order of their numbers. */
    private static final class Loans {
        final int[] number = new int[MAX_LOANS];
        final int[] lender = new int[MAX_LOANS];
        final int[] borrower = new int[MAX_LOANS];
        final int[] cell = new int[MAX_LOANS];
        final int[] parts = new int[MAX_LOANS];
        int standing;
        int made;
        int ended;

        void copyFrom(Loans other) {
            standing = other.standing;
            made = other.made;
            ended = other.ended;
            System.arraycopy(other.number, 0, number, 0, standing);
            System.arraycopy(other.lender, 0, lender, 0, standing);
            System.arraycopy(other.borrower, 0, borrower, 0, standing);
            System.arraycopy(other.cell, 0, cell, 0, standing);
            System.arraycopy(other.parts, 0, parts, 0, standing);
        }

        boolean hasRoom() {
            return standing < MAX_LOANS && made < MAX_MADE;
        }

        /** Needs hasRoom(). */
        int append(int from, int to, int ofCell, int ofParts) {
            number[standing] = made;
            lender[standing] = from;
            borrower[standing] = to;
            cell[standing] = ofCell;
            parts[standing] = ofParts;
            standing++;
            made++;
            return made - 1;
        }

        void remove(int row) {
            int behind = standing - row - 1;
            System.arraycopy(number, row + 1, number, row, behind);
            System.arraycopy(lender, row + 1, lender, row, behind);
            System.arraycopy(borrower, row + 1, borrower, row, behind);
            System.arraycopy(cell, row + 1, cell, row, behind);
            System.arraycopy(parts, row + 1, parts, row, behind);
            standing--;
            ended++;
        }

        /** The row of the loan, or -1 if it does not stand. */
        int rowOf(int loan) {
            for (int row = 0; row < standing; row++) {
                if (number[row] == loan) {
                    return row;
                }
            }
            return -1;
        }

        /** The number of the latest loan of this lender and cell ahead of a loan, or -1. */
        int latestAhead(int loan, int from, int ofCell) {
            for (int row = standing - 1; row >= 0; row--) {
                if (number[row] < loan && lender[row] == from && cell[row] == ofCell) {
                    return number[row];
                }
            }
            return -1;
        }

        int countOf(int ofCell) {
            int loans = 0;
            for (int row = 0; row < standing; row++) {
                if (cell[row] == ofCell) {
                    loans++;
                }
            }
            return loans;
        }

        int partsLent(int agent, int ofCell) {
            return sumParts(lender, agent, ofCell);
        }

        int partsBorrowed(int agent, int ofCell) {
            return sumParts(borrower, agent, ofCell);
        }

        private int sumParts(int[] side, int agent, int ofCell) {
            int sum = 0;
            for (int row = 0; row < standing; row++) {
                if (side[row] == agent && cell[row] == ofCell) {
                    sum += parts[row];
                }
            }
            return sum;
        }

        int longestChain(int ofCell) {
            long links = linksOf(ofCell);
            int longest = 0;
            for (int agent = 0; agent < AGENTS; agent++) {
                longest = Math.max(longest, longestFrom(links, agent, 1 << agent, 1));
            }
            return longest;
        }

        /** A bit for each lender and borrower: loans side by side make one link only. */
        private long linksOf(int ofCell) {
            long links = 0;
            for (int row = 0; row < standing; row++) {
                if (cell[row] == ofCell) {
                    links |= 1L << (lender[row] * AGENTS + borrower[row]);
                }
            }
            return links;
        }

        private static int longestFrom(long links, int agent, int seen, int depth) {
            if (depth >= AGENTS) {
                return 0;
            }
            int longest = 0;
            for (int next = 0; next < AGENTS; next++) {
                boolean linked = ((links >> (agent * AGENTS + next)) & 1) != 0;
                boolean isSeen = ((seen >> next) & 1) != 0;
                if (linked && !isSeen) {
                    longest = Math.max(longest, 1 + longestFrom(links, next, seen | (1 << next), depth + 1));
                }
            }
            return longest;
        }
    }

    /** Gathers cells, in the state that is or in one for trial. */
    private static final class Gathering {
        /**
         * For each agent and set of agents that are gathering: how many loans had ended
         * when this agent's gathering ended none. As long as no more have ended, it need
         * not be gone through again; without this, loans side by side in a chain of
         * agents would be gone through tens of thousands of times.
         */
        private final int[] idleAt = new int[AGENTS << AGENTS];

        /** Answers how many loans are given back by it. */
        int run(State state, int agent, int cell) {
            Arrays.fill(idleAt, -1);
            int before = state.loans.ended;
            gatherFor(state, idleAt, agent, cell, 0, 0);
            return state.loans.ended - before;
        }

        private static void gatherFor(State state, int[] idleAt, int agent, int cell, int busy, int depth) {
            Loans loans = state.loans;
            int before = loans.ended;
            int idle = busy * AGENTS + agent;
            int nowBusy = busy | (1 << agent);
            if (depth >= AGENTS || idleAt[idle] == before) {
                return;
            }
            int loan = loans.latestAhead(MAX_MADE, agent, cell);
            for (int turn = 0; turn < MAX_LOANS && loan >= 0; turn++) {
                int borrower = needyBorrower(state, loan, nowBusy);
                if (borrower >= 0) {
                    gatherFor(state, idleAt, borrower, cell, nowBusy, depth + 1);
                }
                // a loan that cannot be given back stays, and the next one has its turn
                state.endLoan(loan);
                loan = loans.latestAhead(loan, agent, cell);
            }
            if (loans.ended == before) {
                idleAt[idle] = before;
            }
        }

        /** The borrower of the loan, if it has to gather for it and is not gathering yet, or -1. */
        private static int needyBorrower(State state, int loan, int busy) {
            int row = state.loans.rowOf(loan);
            if (row < 0) {
                return -1;
            }
            int borrower = state.loans.borrower[row];
            boolean isBusy = ((busy >> borrower) & 1) != 0;
            boolean hasEnough = state.heldBy(borrower, state.loans.cell[row]) >= state.loans.parts[row];
            return isBusy || hasEnough ? -1 : borrower;
        }
    }

    /** The latest states, in a ring with one row more than is kept, for the act that is open. */
    private static final class History {
        private static final int ROWS = MAX_STATES + 1;

        private final State[] rows = new State[ROWS];
        private int open;
        private int size;

        History() {
            for (int row = 0; row < ROWS; row++) {
                rows[row] = new State();
            }
        }

        int size() {
            return size;
        }

        void open(State state) {
            rows[open].copyFrom(state);
        }

        State opened() {
            return rows[open];
        }

        void record() {
            open = (open + 1) % ROWS;
            size = Math.min(size + 1, MAX_STATES);
        }

        /** The latest state, which is kept no longer, or null. */
        State takeLatest() {
            if (size == 0) {
                return null;
            }
            size--;
            open = (open + ROWS - 1) % ROWS;
            return rows[open];
        }
    }

    /** The text, and the acts that are read from it. */
    private static final class Text {
        /** An act's letter and up to four numbers. */
        static final int SLOTS = 5;
        /** The shortest act has two signs. */
        private static final int MAX_ACTS = MAX_TEXT / 2;

        private final int[] signs = new int[MAX_TEXT];
        private int length;
        private int place;
        final int[] slots = new int[MAX_ACTS * SLOTS];
        int acts;

        int size() {
            return length;
        }

        int append(char sign) {
            if (length >= MAX_TEXT) {
                return FULL;
            }
            signs[length] = sign;
            length++;
            return length;
        }

        int empty() {
            int before = length;
            length = 0;
            return before;
        }

        /** Reads the acts; answers the place of the text's fault, or -1 if it has none. */
        int findFault() {
            place = 0;
            acts = 0;
            boolean fine = readAct();
            for (int act = 1; act < MAX_ACTS && fine && place < length; act++) {
                fine = readSign(',') && readAct();
            }
            return fine ? -1 : place;
        }

        private boolean readAct() {
            int row = acts * SLOTS;
            if (row + SLOTS > slots.length) {
                return false;
            }
            acts++;
            slots[row] = signHere();
            switch (slots[row]) {
                case 'l': return readLoan(row);
                case 'b': return readReturn(row);
                case 'w': return readWrite(row);
                case 'g': return readGathering(row);
                default: return false;
            }
        }

        private boolean readLoan(int row) {
            return readSign('l') && readDigit(row + 1, AGENTS) && readSign('>') && readPair(row + 2)
                && readSign('/') && readNumber(row + 4, 1, WHOLE);
        }

        private boolean readReturn(int row) {
            return readSign('b') && readNumber(row + 1, 0, MAX_MADE - 1);
        }

        private boolean readWrite(int row) {
            return readSign('w') && readPair(row + 1) && readSign('=') && readNumber(row + 3, 0, MAX_VALUE);
        }

        private boolean readGathering(int row) {
            return readSign('g') && readPair(row + 1);
        }

        /** Reads an agent, ":" and a cell. */
        private boolean readPair(int slot) {
            return readDigit(slot, AGENTS) && readSign(':') && readDigit(slot + 1, CELLS);
        }

        /** The sign at the place, or -1 at the end. */
        private int signHere() {
            return place < length ? signs[place] : -1;
        }

        /** The digit at the place, or -1 if there is none. */
        private int digitHere() {
            int sign = signHere();
            return sign >= '0' && sign <= '9' ? sign - '0' : -1;
        }

        private boolean readSign(int sign) {
            if (signHere() != sign) {
                return false;
            }
            place++;
            return true;
        }

        private boolean readDigit(int slot, int bound) {
            int digit = digitHere();
            if (digit < 0 || digit >= bound) {
                return false;
            }
            slots[slot] = digit;
            place++;
            return true;
        }

        /** Stops at a digit too many: it is the fault, wherever the number could have ended. */
        private boolean readNumber(int slot, int least, int most) {
            int number = digitHere();
            if (number < least) {
                return false;
            }
            place++;
            for (int turn = 1; turn < MAX_TEXT && digitHere() >= 0; turn++) {
                int longer = number * 10 + digitHere();
                if (number == 0 || longer > most) {
                    return false;
                }
                number = longer;
                place++;
            }
            slots[slot] = number;
            return true;
        }
    }
}
