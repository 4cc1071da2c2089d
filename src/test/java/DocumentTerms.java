/** The sentences of "Terms", in their order. */
final class DocumentTerms {
    private DocumentTerms() {
    }

    static void all(Document document) {
        cells(document);
        loans(document);
        holdingOn(document);
        gathering(document);
        claims(document);
        texts(document);
        numbers(document);
        history(document);
        errors(document);
        constants(document);
    }

    private static void cells(Document document) {
        document.says("There are 6 cells and 6 agents, each numbered from 0.",
            "cell 0 2 = 0", "cell 5 2 = 5", "cell 6 2 = UNKNOWN", "cell -1 2 = UNKNOWN", "part 0 0 0 = 64", "part 5 5 0 = 64", "part 6 5 0 = UNKNOWN",
            "part -1 0 0 = UNKNOWN", "part 5 6 0 = UNKNOWN", "lend 5 0 5 1 = 0", "lend 0 5 0 1 = 1");
        document.says("A cell has a value (0 to 999; at first 0), a version (0 at first), an owner (at first the agent with its number), "
            + "and 64 parts, each held by an agent (at first all by its owner).",
            "cell 3 0 = 0", "cell 3 1 = 0", "cell 3 2 = 3", "part 3 3 0 = 64", "part 0 3 0 = 0", "write 3 3 1000 = BAD_VALUE", "write 3 3 -1 = BAD_VALUE",
            "write 3 3 999 = 1", "cell 3 0 = 999", "half 3 1 3 = 32", "lend 1 0 3 2 = 1", "part 3 3 0 = 32", "part 1 3 0 = 30", "part 0 3 0 = 2",
            "part 2 3 0 = 0", "cell 3 2 = 3");
        document.says("An agent can read a cell if it holds any part of it; it can write it if it holds all 64.",
            "read 2 4 = NOT_POSSIBLE", "lend 4 2 4 1 = 0", "read 2 4 = 0", "write 4 4 5 = NOT_POSSIBLE", "write 2 4 5 = NOT_POSSIBLE", "lend 4 2 4 63 = 1",
            "write 2 4 5 = 1", "read 2 4 = 5", "read 4 4 = NOT_POSSIBLE", "read 2 3 = NOT_POSSIBLE");
        document.says("When a cell is written, it gets a value, and its version becomes greater by 1.",
            "write 1 1 40 = 1", "cell 1 0 = 40", "cell 1 1 = 1", "write 1 1 40 = 2", "cell 1 1 = 2", "write 1 1 0 = 3", "cell 1 0 = 0", "cell 2 0 = 0",
            "cell 2 1 = 0", "write 2 2 8 = 1", "cell 1 1 = 3");
    }

    private static void loans(Document document) {
        document.title("LOANS");
        document.says("An agent can lend parts that it holds to another agent.",
            "lend 2 3 2 40 = 0", "lend 3 1 2 40 = 1", "lend 3 1 2 1 = NOT_POSSIBLE", "lend 2 2 2 1 = BAD_VALUE", "lend 2 3 2 25 = NOT_POSSIBLE",
            "lend 2 3 2 24 = 2", "lend 2 3 2 1 = NOT_POSSIBLE", "lend 3 2 3 64 = 3");
        document.says("A loan has a number (numbered from 0 in the order in which loans were made, whatever becomes of them), a lender, a borrower, "
            + "a cell, and parts.",
            "lend 5 1 5 3 = 0", "half 4 2 4 = 32", "giveBack 0 = 64", "lend 1 0 1 9 = 2", "giveBack 2 = 64", "claim 3 0 yes = 1", "serve 0 = 3",
            "loan 3 0 = 0", "loan 3 1 = 3", "loan 3 2 = 0", "loan 3 3 = 64", "loan 1 0 = 4", "loan 1 1 = 2", "loan 1 2 = 4", "loan 1 3 = 32",
            "lend 2 5 2 1 = 4");
        document.says("The parts are held by the borrower then, until it gives them back, all together; it can do so if it holds so many parts of the "
            + "cell as the loan has, and does not hold on to the cell.",
            "lend 3 5 3 12 = 0", "part 5 3 0 = 12", "part 3 3 0 = 52", "lend 5 0 3 1 = 1", "giveBack 0 = NOT_POSSIBLE", "part 5 3 0 = 11",
            "lend 3 5 3 1 = 2", "loan 0 4 = 1", "hold 5 3 yes = 0", "loan 0 4 = 0", "giveBack 0 = NOT_POSSIBLE", "hold 5 3 no = 0", "giveBack 0 = 63",
            "part 5 3 0 = 0", "part 3 3 0 = 63");
        document.says("A loan that was given back is gone.",
            "lend 1 4 1 7 = 0", "giveBack 0 = 64", "giveBack 0 = UNKNOWN", "loan 0 3 = UNKNOWN", "cell 1 6 = 0", "count 0 = 0", "part 4 1 2 = 0",
            "part 1 1 1 = 0", "chain 1 = 0", "text b0 = 2", "perform = NOT_POSSIBLE", "stop 1 = UNKNOWN");
        document.says("At most 40 loans stand at a time.",
            "lend 2 0 2 1 = 0..19", "lend 3 0 3 1 = 20..39", "lend 4 0 4 1 = FULL", "half 4 0 4 = FULL", "count 0 = 40", "giveBack 5 = 45",
            "half 4 0 4 = 32", "lend 4 0 4 1 = FULL", "count 0 = 40");
        document.says("Loans are not joined: several of one cell from one agent to the same other one stand side by side.",
            "lend 5 2 5 6 = 0", "lend 5 2 5 6 = 1", "lend 5 2 5 8 = 2", "cell 5 6 = 3", "part 2 5 2 = 20", "giveBack 1 = 50", "loan 0 3 = 6",
            "loan 2 3 = 8", "cell 5 6 = 2", "count 0 = 2", "part 2 5 2 = 14");
    }

    private static void holdingOn(Document document) {
        document.title("HOLDING ON");
        document.says("An agent that can read a cell can begin to read it: it holds on to the cell, until it ends.",
            "hold 0 3 yes = NOT_POSSIBLE", "lend 3 0 3 1 = 0", "hold 0 3 yes = 0", "part 0 3 3 = 1", "write 1 1 1 = 1", "part 0 3 3 = 1",
            "hold 3 3 yes = 0", "cell 3 8 = 2", "hold 0 3 no = 0", "part 0 3 3 = 0", "part 3 3 3 = 1");
        document.says("While it holds on, it gives no loan of this cell back, and lends none of its parts of it.",
            "lend 3 0 3 10 = 0", "lend 2 0 2 10 = 1", "hold 0 3 yes = 0", "giveBack 0 = NOT_POSSIBLE", "gather 3 3 = NONE", "lend 0 1 3 1 = NOT_POSSIBLE",
            "half 0 1 3 = NOT_POSSIBLE", "giveBack 1 = 64", "lend 0 1 0 1 = 2", "hold 0 3 no = 0", "lend 0 1 3 1 = 3", "giveBack 3 = 10",
            "giveBack 0 = 64");
        document.also("while its owner holds on, it does not lend the whole to a claim's agent either",
            "claim 5 3 yes = 1", "hold 3 3 yes = 0", "serve 3 = NONE", "lend 3 5 3 64 = NOT_POSSIBLE", "hold 3 3 no = 0", "serve 3 = 5");
    }

    private static void gathering(Document document) {
        document.title("GATHERING");
        document.says("When an agent gathers a cell: the loans of this cell that it lent are gone through, the latest first, each once;",
            "lend 5 3 5 5 = 0", "lend 5 3 5 6 = 1", "lend 3 2 5 4 = 2", "hold 2 5 yes = 0", "gather 5 5 = 59", "loan 0 3 = 5", "loan 1 3 = UNKNOWN",
            "loan 2 3 = 4");
        document.also("each once: what could be given back only behind that is left to the next gathering",
            "lend 4 2 4 40 = 0", "lend 4 1 4 24 = 1", "lend 1 4 4 24 = 2", "lend 4 3 4 24 = 3", "hold 3 4 yes = 0", "gather 4 4 = 40", "count 5 = 1",
            "gather 4 4 = 40", "count 5 = 3", "gather 4 4 = NONE");
        document.says("for each one the borrower (also one that holds on) gathers the cell itself (by the same rule), if it holds fewer parts than the "
            + "loan has;",
            "lend 2 4 2 20 = 0", "lend 4 0 2 15 = 1", "lend 0 5 2 15 = 2", "hold 4 2 yes = 0", "gather 2 2 = 44", "part 4 2 0 = 20", "count 5 = 2",
            "lend 1 3 1 9 = 3", "lend 3 0 1 9 = 4", "lend 1 0 1 9 = 5", "lend 0 5 1 9 = 6", "gather 3 1 = 9", "loan 6 3 = 9", "count 5 = 3");
        document.says("then it gives the loan back, if it can (also one that is gathering itself).",
            "lend 3 0 3 30 = 0", "lend 0 3 3 30 = 1", "gather 3 3 = 64", "count 5 = 2", "lend 3 0 3 30 = 2", "hold 0 3 yes = 0", "gather 3 3 = NONE",
            "loan 2 3 = 30");
        document.says("What is gathered stays so, also if it is not the whole in the end.",
            "lend 1 0 1 20 = 0", "lend 1 5 1 20 = 1", "hold 0 1 yes = 0", "gather 1 1 = 44", "part 5 1 0 = 0", "part 0 1 0 = 20", "loan 1 0 = UNKNOWN",
            "count 5 = 1", "gather 1 1 = NONE");
        document.says("(An agent whose own gathering is not at its end yet, as its turn comes in this, does not gather once more.)",
            "lend 5 2 5 64 = 0", "lend 2 1 5 20 = 1", "lend 2 3 5 44 = 2", "lend 3 0 5 44 = 3", "lend 0 2 5 20 = 4", "lend 2 4 5 20 = 5",
            "hold 4 5 yes = 0", "gather 2 5 = 20", "count 5 = 1", "part 0 5 0 = 24", "gather 2 5 = 44", "count 5 = 4");
    }

    private static void claims(Document document) {
        document.title("CLAIMS");
        document.says("Agents can claim to write a cell; claims stand in their order, at most one of an agent for a cell.",
            "claim 4 2 yes = 1", "claim 1 2 yes = 2", "claim 2 2 yes = 3", "claim 1 2 yes = NONE", "part 4 2 4 = 0", "part 1 2 4 = 1", "part 2 2 4 = 2",
            "claim 4 2 no = 2", "cell 2 5 = 1", "part 2 2 4 = 1", "claim 4 2 yes = 3", "part 4 2 4 = 2", "claim 4 3 yes = 1", "cell 3 5 = 4");
        document.says("When the claims of a cell are served: its owner gathers it; if it holds the whole then, and does not hold on to it, the first claim "
            + "is granted: it is removed, and the whole is lent to its agent, unless this is the owner.",
            "claim 4 2 yes = 1", "claim 2 2 yes = 2", "claim 0 2 yes = 3", "lend 2 5 2 30 = 0", "lend 5 1 2 30 = 1", "serve 2 = 4", "count 5 = 2",
            "loan 2 0 = 2", "loan 2 1 = 4", "loan 2 2 = 2", "loan 2 3 = 64", "part 4 2 4 = NONE", "cell 2 4 = 2", "serve 2 = 2", "count 1 = 3",
            "part 2 2 0 = 64", "hold 2 2 yes = 0", "serve 2 = NONE", "cell 2 4 = 1", "hold 2 2 no = 0", "serve 2 = 0", "part 0 2 0 = 64", "cell 2 4 = 0");
        document.says("(If the first claim cannot be granted, nothing of the gathering is undone.)",
            "claim 0 4 yes = 1", "lend 4 1 4 8 = 0", "lend 4 3 4 8 = 1", "hold 1 4 yes = 0", "serve 4 = 9", "part 3 4 0 = 0", "part 4 4 0 = 56",
            "loan 1 3 = UNKNOWN", "part 0 4 4 = 0", "count 5 = 1");
        document.says("An owner can hand a cell over to another agent, if it holds the whole, and no loan of it stands: the other one is the owner then, "
            + "and holds the whole.",
            "lend 1 2 1 64 = 0", "handOver 1 4 = NOT_POSSIBLE", "lend 2 1 1 64 = 1", "part 1 1 0 = 64", "handOver 1 4 = NOT_POSSIBLE", "gather 1 1 = 64",
            "handOver 1 4 = 1", "cell 1 2 = 4", "cell 1 7 = 4", "part 1 1 0 = 0", "write 4 1 6 = 1", "handOver 1 1 = 4", "cell 1 2 = 1");
    }

    private static void texts(Document document) {
        document.title("TEXTS");
        document.says("There is a text of at most 60 characters, empty at first.",
            "count 8 = 0", "perform = -100", "type 119 = 1..60", "type 119 = FULL", "count 8 = 60");
        document.says("A text of acts is one or more acts with \",\" between two:",
            "text g0:0 = 4", "perform = 1", "text g0:0,g1:1 = 9", "perform = 2", "text g0:0,,g1:1 = 10", "perform = -105", "text ,g0:0 = 5",
            "perform = -100", "text g0:0g1:1 = 8", "perform = -104", "text g0:0, = 5", "perform = -105");
        document.says("\"l\", an agent, \">\", an agent, \":\", a cell, \"/\", and parts (1 to 64): a loan;",
            "text l2>5:2/64 = 9", "perform = 1", "loan 0 0 = 2", "loan 0 1 = 5", "loan 0 2 = 2", "loan 0 3 = 64", "text l3>1:3/1 = 8", "perform = 1",
            "part 1 3 0 = 1", "text l2>5:2/0 = 8", "perform = -107", "text l2>5:2/65 = 9", "perform = -108", "text l2:5:2/6 = 8", "perform = -102");
        document.says("\"b\" and the number of a loan (0 to 999): it is given back;",
            "lend 3 1 3 9 = 0", "lend 3 1 3 8 = 1", "text b1 = 2", "perform = 1", "part 1 3 0 = 9", "loan 1 0 = UNKNOWN", "text b999 = 4",
            "perform = NOT_POSSIBLE", "stop 1 = UNKNOWN", "text b1000 = 5", "perform = -104", "text b: = 2", "perform = -101");
        document.says("\"w\", an agent, \":\", a cell, \"=\", a value (0 to 999): it writes;",
            "text w4:4=999 = 8", "perform = 1", "read 4 4 = 999", "text w4:4=0 = 6", "perform = 1", "read 4 4 = 0", "cell 4 1 = 2", "text w4:4=1000 = 9",
            "perform = -108", "text w4:4: = 5", "perform = -104");
        document.says("\"g\", an agent, \":\", a cell: it gathers.",
            "lend 5 3 5 50 = 0", "lend 3 4 5 50 = 1", "text g3:5 = 4", "perform = 1", "part 3 5 0 = 50", "part 4 5 0 = 0", "text g5:5 = 4", "perform = 1",
            "part 5 5 0 = 64", "text g55 = 3", "perform = -102");
    }

    private static void numbers(Document document) {
        document.says("Agents and cells are digits from 0 to 5;",
            "text g5:5,g0:0 = 9", "perform = 2", "text g6:0 = 4", "perform = -101", "text g0:6 = 4", "perform = -103", "text w6:0=1 = 6", "perform = -101",
            "text w0:7=1 = 6", "perform = -103", "text l8>1:0/1 = 8", "perform = -101", "text l0>6:0/1 = 8", "perform = -103", "text l0>1:9/1 = 8",
            "perform = -105", "text g00:0 = 5", "perform = -102");
        document.says("numbers are without a zero in front unless it is the single digit 0;",
            "text b0 = 2", "perform = NOT_POSSIBLE", "text b00 = 3", "perform = -102", "text b07 = 3", "perform = -102", "text w0:0=0 = 6", "perform = 1",
            "text w0:0=01 = 7", "perform = -106");
        document.says("a digit is not allowed by which a number would be greater than told;",
            "text b9999 = 5", "perform = -104", "text w0:0=9990 = 9", "perform = -108", "text l0>1:0/640 = 10", "perform = -109", "text l0>1:0/70 = 9",
            "perform = -108", "text l0>1:0/7 = 8", "perform = 1");
        document.says("parts do not begin with 0.", "text l0>1:0/0 = 8", "perform = -107", "text l0>1:0/05 = 9", "perform = -107");
        document.says("The fault of the text is the index, from 0, of the first character that is not allowed at its place, or the length of the text if it "
            + "ends too early (the empty text does).",
            "perform = -100", "text x = 1", "perform = -100", "text w0:0=5;x = 8", "perform = -106", "text w0:0=5,w6 = 9", "perform = -108",
            "text w0:0=5,w = 8", "perform = -108", "text w = 1", "perform = -101", "type 50 = 2", "perform = -102");
    }

    private static void history(Document document) {
        document.title("HISTORY");
        document.says("A history of at most 4 states is kept; when one more is recorded, the oldest one is dropped; undo() removes and restores the latest one.",
            "write 2 2 1 = 1..3", "count 7 = 3", "write 2 2 1 = 4", "count 7 = 4", "write 2 2 1 = 5..6", "count 7 = 4", "undo = 3", "cell 2 1 = 5",
            "undo = 2..0", "cell 2 1 = 2", "undo = NONE", "cell 2 1 = 2");
        document.says("Each call of a method that is described as an act, and returns no error and not NONE, records the state that was before it.",
            "lend 2 3 2 4 = 0", "count 7 = 1", "lend 2 3 2 61 = NOT_POSSIBLE", "count 7 = 1", "gather 3 2 = NONE", "count 7 = 1", "read 2 2 = 0",
            "keep = 1", "type 98 = 1", "clearText = 1", "stop 0 = NONE", "count 7 = 1", "half 2 3 2 = 30", "count 7 = 2", "undo = 1", "part 3 2 0 = 4",
            "undo = 0", "part 3 2 0 = 0");
        document.says("There is one snapshot, empty at first.",
            "restore = NONE", "write 1 1 5 = 1", "keep = 0", "write 1 1 6 = 2", "keep = 0", "write 1 1 7 = 3", "restore = 0", "cell 1 0 = 6");
        document.says("A state is everything but the text, the history, the snapshot and the latest stop.",
            "text b5 = 2", "perform = NOT_POSSIBLE", "keep = 0", "lend 0 1 0 3 = 0", "claim 1 1 yes = 1", "hold 2 2 yes = 0", "write 3 3 3 = 1",
            "restore = 0", "count 0 = 0", "count 1 = 0", "count 3 = 0", "count 4 = 0", "count 6 = 0", "count 7 = 4", "count 8 = 2", "stop 0 = 0",
            "stop 1 = UNKNOWN", "undo = 3", "count 0 = 1", "count 1 = 1", "count 3 = 1", "count 4 = 1", "count 6 = 1", "count 7 = 3", "count 8 = 2",
            "stop 0 = 0", "restore = 0", "count 1 = 0", "lend 4 5 4 1 = 0");
    }

    private static void errors(Document document) {
        document.title("ERRORS");
        document.says("Errors are reported by the constants below.",
            "lend 0 6 0 1 = -1", "lend 0 0 0 1 = -2", "lend 1 0 0 1 = -4", "lend 0 1 0 1 = 0..39", "lend 0 1 0 1 = -3", "gather 1 0 = -5");
        document.says("Where several errors can apply, the order of the @return line is the order of the checks.",
            "lend 6 6 6 65 = UNKNOWN", "lend 1 1 0 65 = BAD_VALUE", "lend 1 2 0 65 = BAD_VALUE", "lend 0 1 0 1 = 0..39", "lend 0 1 0 25 = NOT_POSSIBLE",
            "lend 1 1 0 1 = BAD_VALUE", "lend 0 1 0 24 = FULL", "write 1 0 1000 = BAD_VALUE", "write 1 6 1000 = UNKNOWN");
        document.says("NONE is no error; it is returned only if no error applies.",
            "gather 6 0 = UNKNOWN", "gather 0 0 = NONE", "claim 0 6 no = UNKNOWN", "lend 0 1 0 1 = 0", "handOver 0 0 = NOT_POSSIBLE", "giveBack 0 = 64",
            "handOver 0 0 = NONE", "stop 2 = BAD_VALUE", "stop 0 = NONE", "hold 1 0 yes = NOT_POSSIBLE", "hold 1 0 no = NONE", "text g0:0 = 4",
            "perform = 1", "stop 0 = NONE");
        document.says("A call that returns an error or NONE changes nothing (but for the latest stop of perform()).",
            "lend 4 1 4 20 = 0", "claim 2 4 yes = 1", "text w3:3=1,g4:4,b0 = 14", "perform = NOT_POSSIBLE", "stop 0 = 2", "stop 1 = UNKNOWN",
            "cell 3 1 = 0", "part 1 4 0 = 20", "count 7 = 2", "count 5 = 0", "lend 1 2 4 21 = NOT_POSSIBLE", "count 1 = 1", "gather 1 4 = NONE",
            "claim 2 4 yes = NONE", "cell 4 4 = 1", "count 7 = 2", "undo = 1", "part 2 4 4 = NONE", "undo = 0", "part 1 4 0 = 0");
    }

    private static void constants(Document document) {
        document.says("The constants: UNKNOWN = -1: There is no such agent, cell or loan.",
            "read 6 0 = -1", "read 0 6 = -1", "giveBack 0 = -1", "loan 0 0 = -1", "read 6 0 = UNKNOWN");
        document.says("BAD_VALUE = -2: Another argument is out of range.",
            "write 0 0 1000 = -2", "cell 0 9 = -2", "part 0 0 6 = -2", "count 9 = -2", "stop 2 = -2", "lend 0 1 0 0 = -2", "lend 0 1 0 0 = BAD_VALUE");
        document.says("FULL = -3: There is no more room.",
            "type 98 = 1..60", "type 98 = -3", "type 98 = FULL", "lend 0 1 0 1 = 0..39", "half 0 1 0 = -3", "claim 3 3 yes = 1", "claim 2 3 yes = 2",
            "serve 3 = 3", "serve 3 = -3");
        document.says("NOT_POSSIBLE = -4: This is not possible.",
            "read 1 0 = -4", "write 1 0 5 = -4", "hold 1 0 yes = -4", "serve 0 = -4", "half 1 0 0 = -4", "half 1 0 0 = NOT_POSSIBLE");
        document.says("NONE = -5: There is no such thing; not an error.",
            "cell 0 5 = -5", "part 0 0 4 = -5", "undo = -5", "restore = -5", "stop 0 = -5", "gather 0 0 = -5", "handOver 0 0 = NONE");
    }
}
