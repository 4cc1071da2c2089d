/** The sentences of the promises 1 to 24, in their order: what a method does, its arguments, what it returns. */
final class DocumentPromises {
    /** 999 loans of agent 3 to agent 5, all of them given back; 241 calls. */
    private static final String[] MANY_LOANS = {
        "text l3>5:3/9,l3>5:3/9,l3>5:3/9,l3>5:3/9,l3>5:3/9,l3>5:3/9,g3:3 = 58", "perform = 7 times 166", "lend 3 5 3 1 = 996..998", "gather 3 3 = 64",
    };

    private DocumentPromises() {
    }

    static void all(Document document) {
        newObject(document);
        lend(document);
        half(document);
        giveBack(document);
        gather(document);
        hold(document);
        write(document);
        read(document);
        claim(document);
        serve(document);
        handOver(document);
        typeAndClear(document);
        perform(document);
        stop(document);
        undo(document);
        keepAndRestore(document);
        cell(document);
        part(document);
        loan(document);
        reason(document);
        chain(document);
        count(document);
    }

    private static String[] afterMany(String... lines) {
        String[] all = new String[MANY_LOANS.length + lines.length];
        System.arraycopy(MANY_LOANS, 0, all, 0, MANY_LOANS.length);
        System.arraycopy(lines, 0, all, MANY_LOANS.length, lines.length);
        return all;
    }

    private static void newObject(Document document) {
        document.says("LentParts(): Creates cells that are whole with their owners.",
            "count 2 = 6", "cell 0 7 = 0", "cell 1 7 = 1", "cell 2 7 = 2", "cell 3 7 = 3", "cell 4 7 = 4", "cell 5 7 = 5", "cell 0 2 = 0", "cell 1 2 = 1",
            "cell 2 2 = 2", "cell 3 2 = 3", "cell 4 2 = 4", "cell 5 2 = 5", "cell 0 3 = 1", "cell 5 3 = 1", "count 0 = 0", "count 7 = 0");
    }

    private static void lend(Document document) {
        document.says("int lend(int from, int to, int cell, int parts): Lends parts.",
            "lend 3 2 3 15 = 0", "part 2 3 0 = 15", "part 3 3 0 = 49", "part 2 2 0 = 64");
        document.says("This is an act.", "lend 3 2 3 15 = 0", "count 7 = 1", "undo = 0", "part 2 3 0 = 0", "count 1 = 0");
        document.says("from: 0 to 5", "lend 0 1 0 1 = 0", "lend 5 1 5 1 = 1", "lend -1 1 0 1 = UNKNOWN", "lend 6 1 0 1 = UNKNOWN");
        document.says("to: 0 to 5", "lend 1 0 1 1 = 0", "lend 1 5 1 1 = 1", "lend 1 -1 1 1 = UNKNOWN", "lend 1 6 1 1 = UNKNOWN");
        document.says("cell: 0 to 5", "lend 0 1 0 1 = 0", "lend 5 1 5 1 = 1", "lend 0 1 -1 1 = UNKNOWN", "lend 0 1 6 1 = UNKNOWN");
        document.says("parts: 1 to 64", "lend 0 1 0 1 = 0", "lend 5 1 5 64 = 1", "lend 0 1 0 0 = BAD_VALUE", "lend 1 0 1 65 = BAD_VALUE");
        document.says("Returns the number of the loan;", "lend 4 0 4 1 = 0", "lend 0 4 0 1 = 1", "giveBack 0 = 64", "lend 4 0 4 1 = 2");
        document.says("UNKNOWN (from, to or cell);", "lend 7 1 0 0 = UNKNOWN", "lend 0 7 0 0 = UNKNOWN", "lend 0 1 7 0 = UNKNOWN", "lend -9 -9 0 0 = UNKNOWN");
        document.says("BAD_VALUE (parts, or both agents are the same);",
            "lend 2 1 2 -1 = BAD_VALUE", "lend 2 1 2 65 = BAD_VALUE", "lend 2 2 2 1 = BAD_VALUE", "lend 2 2 3 1 = BAD_VALUE", "count 1 = 0");
        document.says("NOT_POSSIBLE if from holds fewer parts, or holds on to the cell;",
            "lend 2 1 2 30 = 0", "lend 2 1 2 35 = NOT_POSSIBLE", "lend 2 1 2 34 = 1", "lend 1 3 2 64 = 2", "lend 1 3 2 1 = NOT_POSSIBLE", "hold 3 2 yes = 0",
            "lend 3 1 2 1 = NOT_POSSIBLE", "hold 3 2 no = 0", "lend 3 1 2 1 = 3");
        document.says("FULL if 40 loans stand, or there have been 1000.",
            "lend 2 1 2 1 = 0..39", "lend 2 1 2 1 = FULL", "giveBack 0 = 25", "lend 2 1 2 1 = 40");
        document.also("or there have been 1000", afterMany("lend 0 1 0 1 = 999", "lend 0 1 0 1 = FULL", "giveBack 999 = 64", "lend 0 1 0 1 = FULL"));
    }

    private static void half(Document document) {
        document.says("int half(int from, int to, int cell): Lends half of the parts that an agent holds, rounded down.",
            "lend 2 0 2 3 = 0", "half 2 5 2 = 30", "part 5 2 0 = 30", "part 2 2 0 = 31", "half 0 5 2 = 1", "part 0 2 0 = 2", "loan 1 3 = 30",
            "loan 2 3 = 1");
        document.says("This is an act.", "half 2 5 2 = 32", "count 7 = 1", "undo = 0", "count 1 = 0", "part 2 2 0 = 64");
        document.says("from: 0 to 5", "half 0 1 0 = 32", "half 5 1 5 = 32", "half -1 1 0 = UNKNOWN", "half 6 1 0 = UNKNOWN");
        document.says("to: 0 to 5", "half 1 0 1 = 32", "half 1 5 1 = 16", "half 1 -1 1 = UNKNOWN", "half 1 6 1 = UNKNOWN");
        document.says("cell: 0 to 5", "half 0 1 0 = 32", "half 5 1 5 = 32", "half 0 1 -1 = UNKNOWN", "half 0 1 6 = UNKNOWN");
        document.says("Returns the parts;", "half 1 3 1 = 32", "half 1 3 1 = 16", "half 3 1 1 = 24", "part 3 1 0 = 24");
        document.says("UNKNOWN (from, to or cell);", "half 7 7 0 = UNKNOWN", "half 0 7 0 = UNKNOWN", "half 0 0 7 = UNKNOWN");
        document.says("BAD_VALUE if both agents are the same;", "half 1 1 1 = BAD_VALUE", "half 0 0 1 = BAD_VALUE", "hold 1 1 yes = 0", "half 1 1 1 = BAD_VALUE");
        document.says("NOT_POSSIBLE if from holds fewer than 2 parts, or holds on to the cell;",
            "half 0 2 1 = NOT_POSSIBLE", "lend 1 0 1 1 = 0", "half 0 2 1 = NOT_POSSIBLE", "lend 1 0 1 1 = 1", "half 0 2 1 = 1", "hold 1 1 yes = 0",
            "half 1 2 1 = NOT_POSSIBLE");
        document.says("FULL as for lend().", "lend 1 0 1 1 = 0..39", "half 1 0 1 = FULL", "giveBack 39 = 25", "half 1 0 1 = 12", "half 1 0 1 = FULL");
        document.also("FULL as for lend(): there have been 1000", afterMany("half 0 1 0 = 32", "loan 999 3 = 32", "half 0 1 0 = FULL", "half 2 1 2 = FULL"));
    }

    private static void giveBack(Document document) {
        document.says("int giveBack(int loan): A loan is given back.",
            "lend 0 3 0 25 = 0", "giveBack 0 = 64", "part 3 0 0 = 0", "loan 0 0 = UNKNOWN", "count 5 = 1");
        document.says("This is an act.", "lend 0 3 0 25 = 0", "giveBack 0 = 64", "count 7 = 2", "undo = 1", "part 3 0 0 = 25", "loan 0 1 = 3");
        document.says("loan: a loan", "giveBack 0 = UNKNOWN", "lend 0 3 0 25 = 0", "giveBack 1 = UNKNOWN", "giveBack -1 = UNKNOWN", "giveBack 0 = 64");
        document.says("Returns how many parts its lender holds then;",
            "lend 0 3 0 25 = 0", "lend 3 4 0 5 = 1", "giveBack 1 = 25", "lend 0 1 0 9 = 2", "giveBack 0 = 55", "giveBack 2 = 64");
        document.says("UNKNOWN;", "giveBack least = UNKNOWN", "giveBack greatest = UNKNOWN", "lend 0 3 0 25 = 0", "giveBack 0 = 64", "giveBack 0 = UNKNOWN");
        document.says("NOT_POSSIBLE if the borrower cannot give it back.",
            "lend 0 3 0 25 = 0", "lend 3 4 0 1 = 1", "giveBack 0 = NOT_POSSIBLE", "giveBack 1 = 25", "hold 3 0 yes = 0", "giveBack 0 = NOT_POSSIBLE",
            "hold 3 0 no = 0", "giveBack 0 = 64");
    }

    private static void gather(Document document) {
        document.says("int gather(int agent, int cell): An agent gathers a cell.",
            "lend 4 5 4 33 = 0", "lend 5 1 4 33 = 1", "gather 4 4 = 64", "count 0 = 0", "count 5 = 2");
        document.says("This is an act.", "lend 4 5 4 33 = 0", "gather 4 4 = 64", "count 7 = 2", "undo = 1", "part 5 4 0 = 33");
        document.says("agent: 0 to 5", "gather -1 0 = UNKNOWN", "gather 0 0 = NONE", "lend 5 0 5 1 = 0", "gather 5 5 = 64", "gather 6 0 = UNKNOWN");
        document.says("cell: 0 to 5", "gather 0 -1 = UNKNOWN", "lend 0 5 0 1 = 0", "gather 0 0 = 64", "gather 0 5 = NONE", "gather 0 6 = UNKNOWN");
        document.says("Returns how many parts it holds then;",
            "lend 4 5 4 33 = 0", "lend 5 1 4 3 = 1", "hold 1 4 yes = 0", "lend 5 2 4 30 = 2", "gather 5 4 = 30", "gather 4 4 = NONE", "hold 1 4 no = 0",
            "gather 4 4 = 64");
        document.says("UNKNOWN (agent or cell);", "gather 7 0 = UNKNOWN", "gather 0 7 = UNKNOWN", "gather least greatest = UNKNOWN");
        document.says("NONE if no loan is given back by that.",
            "gather 4 4 = NONE", "lend 4 5 4 33 = 0", "gather 5 4 = NONE", "lend 5 1 4 32 = 1", "hold 5 4 yes = 0", "gather 4 4 = 31", "part 5 4 0 = 33",
            "gather 4 4 = NONE", "count 7 = 4");
    }

    private static void hold(Document document) {
        document.says("int hold(int agent, int cell, boolean hold): Begins to read, or ends it.",
            "hold 2 2 yes = 0", "part 2 2 3 = 1", "lend 2 3 2 1 = NOT_POSSIBLE", "hold 2 2 no = 0", "part 2 2 3 = 0", "lend 2 3 2 1 = 0");
        document.says("This is an act.",
            "hold 2 2 yes = 0", "count 7 = 1", "hold 2 2 no = 0", "count 7 = 2", "undo = 1", "part 2 2 3 = 1", "undo = 0", "part 2 2 3 = 0");
        document.says("agent: 0 to 5", "hold 0 0 yes = 0", "hold 5 5 yes = 0", "hold -1 0 yes = UNKNOWN", "hold 6 5 yes = UNKNOWN");
        document.says("cell: 0 to 5", "hold 0 0 yes = 0", "hold 5 5 yes = 0", "hold 0 -1 yes = UNKNOWN", "hold 5 6 yes = UNKNOWN");
        document.says("hold: whether it holds on then", "hold 2 2 no = NONE", "hold 2 2 yes = 0", "cell 2 8 = 1", "hold 2 2 no = 0", "cell 2 8 = 0");
        document.says("Returns the value of the cell;", "write 2 2 77 = 1", "hold 2 2 yes = 77", "write 2 2 78 = 2", "hold 2 2 no = 78");
        document.says("UNKNOWN (agent or cell);", "hold 7 0 yes = UNKNOWN", "hold 7 0 no = UNKNOWN", "hold 0 7 yes = UNKNOWN", "hold 0 7 no = UNKNOWN");
        document.says("NOT_POSSIBLE if it cannot read the cell and is to hold on;",
            "hold 1 2 yes = NOT_POSSIBLE", "lend 2 1 2 64 = 0", "hold 1 2 yes = 0", "hold 2 2 yes = NOT_POSSIBLE", "hold 2 2 no = NONE");
        document.says("NONE if it is so already.", "hold 2 2 yes = 0", "hold 2 2 yes = NONE", "hold 2 2 no = 0", "hold 2 2 no = NONE", "hold 1 2 no = NONE");
    }

    private static void write(Document document) {
        document.says("int write(int agent, int cell, int value): Writes a cell.",
            "write 3 3 500 = 1", "cell 3 0 = 500", "cell 3 1 = 1", "count 4 = 1", "read 3 3 = 500");
        document.says("This is an act.", "write 3 3 500 = 1", "count 7 = 1", "undo = 0", "cell 3 0 = 0", "cell 3 1 = 0", "count 4 = 0");
        document.says("agent: 0 to 5", "write 0 0 1 = 1", "write 5 5 1 = 1", "write -1 0 1 = UNKNOWN", "write 6 5 1 = UNKNOWN");
        document.says("cell: 0 to 5", "write 0 0 1 = 1", "write 5 5 1 = 1", "write 0 -1 1 = UNKNOWN", "write 5 6 1 = UNKNOWN");
        document.says("value: 0 to 999", "write 0 0 0 = 1", "write 0 0 999 = 2", "write 0 0 -1 = BAD_VALUE", "write 0 0 1000 = BAD_VALUE", "cell 0 0 = 999");
        document.says("Returns the version then;", "write 3 3 9 = 1", "write 3 3 9 = 2", "write 4 4 9 = 1", "lend 3 4 3 64 = 0", "write 4 3 9 = 3", "cell 3 1 = 3");
        document.says("UNKNOWN (agent or cell);", "write 7 0 1 = UNKNOWN", "write 0 7 1 = UNKNOWN", "write 7 0 -1 = UNKNOWN", "write 0 7 1000 = UNKNOWN");
        document.says("BAD_VALUE;", "write 3 3 1000 = BAD_VALUE", "write 3 3 -1 = BAD_VALUE", "write 2 3 1000 = BAD_VALUE", "cell 3 1 = 0");
        document.says("NOT_POSSIBLE if it does not hold the whole.",
            "write 2 3 5 = NOT_POSSIBLE", "lend 3 2 3 63 = 0", "write 2 3 5 = NOT_POSSIBLE", "write 3 3 5 = NOT_POSSIBLE", "lend 3 2 3 1 = 1",
            "write 2 3 5 = 1", "cell 3 0 = 5");
    }

    private static void read(Document document) {
        document.says("int read(int agent, int cell): Reads a cell.", "write 1 1 33 = 1", "read 1 1 = 33", "read 1 1 = 33", "count 7 = 1", "count 6 = 0");
        document.says("agent: 0 to 5", "read 0 0 = 0", "read 5 5 = 0", "read -1 0 = UNKNOWN", "read 6 5 = UNKNOWN");
        document.says("cell: 0 to 5", "read 0 0 = 0", "read 5 5 = 0", "read 0 -1 = UNKNOWN", "read 5 6 = UNKNOWN");
        document.says("Returns its value;", "write 1 1 999 = 1", "read 1 1 = 999", "half 1 0 1 = 32", "read 0 1 = 999", "read 0 0 = 0");
        document.says("UNKNOWN (agent or cell);", "read 7 0 = UNKNOWN", "read 0 7 = UNKNOWN", "read least 0 = UNKNOWN", "read 0 greatest = UNKNOWN");
        document.says("NOT_POSSIBLE if the agent holds no part.",
            "read 0 1 = NOT_POSSIBLE", "lend 1 0 1 64 = 0", "read 0 1 = 0", "read 1 1 = NOT_POSSIBLE", "giveBack 0 = 64", "read 0 1 = NOT_POSSIBLE");
    }

    private static void claim(Document document) {
        document.says("int claim(int agent, int cell, boolean wants): Claims to write a cell, or takes the claim back.",
            "claim 5 1 yes = 1", "cell 1 5 = 5", "part 5 1 4 = 0", "claim 5 1 no = 0", "cell 1 5 = NONE", "part 5 1 4 = NONE");
        document.says("This is an act.", "claim 5 1 yes = 1", "count 7 = 1", "claim 5 1 no = 0", "count 7 = 2", "undo = 1", "cell 1 4 = 1", "undo = 0", "cell 1 4 = 0");
        document.says("agent: 0 to 5", "claim 0 0 yes = 1", "claim 5 0 yes = 2", "claim -1 0 yes = UNKNOWN", "claim 6 0 yes = UNKNOWN");
        document.says("cell: 0 to 5", "claim 0 0 yes = 1", "claim 0 5 yes = 1", "claim 0 -1 yes = UNKNOWN", "claim 0 6 yes = UNKNOWN");
        document.says("wants: whether it claims then", "claim 3 1 no = NONE", "claim 3 1 yes = 1", "cell 1 4 = 1", "claim 3 1 no = 0", "cell 1 4 = 0");
        document.says("Returns how many claims the cell has then;",
            "claim 3 1 yes = 1", "claim 1 1 yes = 2", "claim 0 1 yes = 3", "claim 0 2 yes = 1", "claim 1 1 no = 2", "claim 3 1 no = 1", "claim 0 1 no = 0");
        document.says("UNKNOWN (agent or cell);", "claim 7 0 yes = UNKNOWN", "claim 7 0 no = UNKNOWN", "claim 0 7 yes = UNKNOWN", "claim 0 7 no = UNKNOWN");
        document.says("NONE if it is so already.", "claim 3 1 yes = 1", "claim 3 1 yes = NONE", "claim 3 1 no = 0", "claim 3 1 no = NONE", "count 7 = 2");
    }

    private static void serve(Document document) {
        document.says("int serve(int cell): Serves the claims of a cell.",
            "claim 2 5 yes = 1", "claim 3 5 yes = 2", "serve 5 = 2", "part 2 5 0 = 64", "serve 5 = 3", "part 3 5 0 = 64", "part 2 5 0 = 0", "cell 5 4 = 0");
        document.says("This is an act.", "claim 2 5 yes = 1", "serve 5 = 2", "count 7 = 2", "undo = 1", "cell 5 5 = 2", "part 5 5 0 = 64", "count 1 = 0");
        document.says("cell: 0 to 5", "claim 1 0 yes = 1", "claim 1 5 yes = 1", "serve -1 = UNKNOWN", "serve 6 = UNKNOWN", "serve 0 = 1", "serve 5 = 1");
        document.says("Returns the agent whose claim is granted, or 9 if none is, but any loan was given back;",
            "claim 5 5 yes = 1", "claim 0 5 yes = 2", "lend 5 1 5 4 = 0", "lend 5 2 5 4 = 1", "hold 2 5 yes = 0", "serve 5 = 9", "part 1 5 0 = 0",
            "hold 2 5 no = 0", "serve 5 = 5", "serve 5 = 0");
        document.says("UNKNOWN;", "serve 7 = UNKNOWN", "serve least = UNKNOWN", "serve greatest = UNKNOWN");
        document.says("NOT_POSSIBLE if it has no claims;", "lend 5 1 5 4 = 0", "claim 1 4 yes = 1", "serve 5 = NOT_POSSIBLE", "part 1 5 0 = 4", "count 7 = 2");
        document.says("FULL as for lend() (by the loans that stand behind the gathering), if the whole would have to be lent;",
            "lend 0 1 0 1 = 0..38", "lend 5 2 5 1 = 39", "claim 3 5 yes = 1", "claim 5 4 yes = 1", "claim 4 4 yes = 2", "serve 4 = FULL", "serve 5 = 3",
            "count 0 = 40", "claim 5 4 no = 1", "serve 4 = 4", "count 0 = 40");
        document.also("FULL as for lend(): there have been 1000",
            afterMany("claim 0 1 yes = 1", "claim 2 1 yes = 2", "claim 1 1 yes = 3", "serve 1 = 0", "serve 1 = FULL", "part 0 1 0 = 64", "claim 2 1 no = 1",
                "serve 1 = 1", "part 1 1 0 = 64"));
        document.says("NONE if none is granted and no loan was given back.",
            "claim 3 5 yes = 1", "lend 5 2 5 1 = 0", "hold 2 5 yes = 0", "serve 5 = NONE", "count 7 = 3", "hold 2 5 no = 0", "giveBack 0 = 64",
            "hold 5 5 yes = 0", "serve 5 = NONE", "hold 5 5 no = 0", "serve 5 = 3");
    }

    private static void handOver(Document document) {
        document.says("int handOver(int cell, int to): Hands a cell over.",
            "handOver 3 1 = 3", "cell 3 2 = 1", "cell 3 7 = 1", "part 3 3 0 = 0", "write 1 3 6 = 1", "claim 5 3 yes = 1", "serve 3 = 5", "loan 0 0 = 1");
        document.says("This is an act.", "handOver 3 1 = 3", "count 7 = 1", "undo = 0", "cell 3 2 = 3", "cell 3 7 = 3");
        document.says("cell: 0 to 5", "handOver -1 0 = UNKNOWN", "handOver 6 0 = UNKNOWN", "handOver 0 1 = 0", "handOver 5 1 = 5");
        document.says("to: 0 to 5", "handOver 1 -1 = UNKNOWN", "handOver 1 6 = UNKNOWN", "handOver 1 0 = 1", "handOver 1 5 = 0");
        document.says("Returns the previous owner;", "handOver 4 2 = 4", "handOver 4 0 = 2", "handOver 4 4 = 0", "handOver 4 5 = 4");
        document.says("UNKNOWN (cell or to);", "handOver 7 7 = UNKNOWN", "handOver 0 7 = UNKNOWN", "handOver 7 0 = UNKNOWN");
        document.says("NOT_POSSIBLE if any loan of it stands, or its owner holds on to it;",
            "lend 4 2 4 64 = 0", "lend 2 4 4 64 = 1", "handOver 4 2 = NOT_POSSIBLE", "handOver 4 4 = NOT_POSSIBLE", "gather 4 4 = 64", "hold 4 4 yes = 0",
            "handOver 4 2 = NOT_POSSIBLE", "handOver 4 4 = NOT_POSSIBLE", "hold 4 4 no = 0", "handOver 4 2 = 4");
        document.says("NONE if to is its owner.", "handOver 4 4 = NONE", "handOver 4 2 = 4", "handOver 4 2 = NONE", "handOver 4 4 = 2", "count 7 = 2");
    }

    private static void typeAndClear(Document document) {
        document.says("int type(char character): Types a character behind the text.",
            "type 103 = 1", "type 49 = 2", "type 58 = 3", "perform = -103", "type 49 = 4", "perform = 1", "count 7 = 1");
        document.says("character: any character", "type 0 = 1", "type 10 = 2", "type 233 = 3", "type 8364 = 4", "type 55357 = 5", "type 65535 = 6", "perform = -100");
        document.says("Returns the length of the text then;", "type 44 = 1..59", "type 44 = 60", "count 8 = 60");
        document.says("FULL if it has 60 characters.", "type 44 = 1..60", "type 44 = FULL", "count 8 = 60", "clearText = 60", "type 44 = 1");
        document.says("int clearText(): Empties the text.", "text g0:0 = 4", "clearText = 4", "count 8 = 0", "perform = -100", "count 7 = 0");
        document.says("Returns the length that it had.", "clearText = 0", "type 44 = 1..33", "clearText = 33", "clearText = 0");
    }

    private static void perform(Document document) {
        document.says("int perform(): Performs the acts of the text, which stays, one after the other; all of them, or none.",
            "text l1>4:1/64,w4:1=7,b0 = 19", "perform = 3", "cell 1 0 = 7", "part 1 1 0 = 64", "count 8 = 19", "perform = NOT_POSSIBLE", "cell 1 1 = 1",
            "part 1 1 0 = 64", "count 0 = 0", "count 1 = 1", "count 4 = 1", "count 8 = 19");
        document.says("This is one act.", "text w1:1=1,w1:1=2,w1:1=3 = 20", "perform = 3", "count 7 = 1", "undo = 0", "cell 1 0 = 0", "cell 1 1 = 0", "undo = NONE");
        document.says("One whose method would return an error stops it; one that would return NONE does nothing.",
            "text g1:1,w1:1=1 = 11", "perform = 2", "cell 1 0 = 1", "text w1:1=5,b3 = 9", "perform = NOT_POSSIBLE", "stop 0 = 1", "cell 1 0 = 1",
            "text w1:1=5,l2>2:2/1 = 15", "perform = NOT_POSSIBLE", "stop 1 = BAD_VALUE", "cell 1 0 = 1");
        document.says("Returns how many acts there are;", "text g1:1 = 4", "perform = 1", "text g1:1,g1:1,g1:1,w0:0=0 = 21", "perform = 4");
        document.says("-100 minus the fault of the text if it has one (which is an error);",
            "perform = -100", "text w0:0=1,q = 8", "perform = -107", "cell 0 1 = 0", "count 7 = 0", "text g0:0,g0:0,g0:0,g0:0,g0:0,g0:0,g0:0,g0:0,g0:0,w0:0=9999 = 54",
            "perform = -153", "text b0,x = 4", "perform = -103");
        document.says("NOT_POSSIBLE if any is stopped.", "text b0 = 2", "perform = NOT_POSSIBLE", "text l0>0:0/1 = 8", "perform = NOT_POSSIBLE", "count 7 = 0");
    }

    private static void stop(Document document) {
        document.says("int stop(int what): Tells of the latest stop of perform().",
            "text g0:0,b0 = 7", "perform = NOT_POSSIBLE", "stop 0 = 1", "stop 1 = UNKNOWN", "text w0:1=2 = 6", "perform = NOT_POSSIBLE", "stop 0 = 0",
            "stop 1 = NOT_POSSIBLE", "text g0:0 = 4", "perform = 1", "stop 0 = 0", "stop 1 = NOT_POSSIBLE");
        document.says("what: 0 for the number of the act in its text, from 0, 1 for the error that the method would have returned",
            "text g0:0,g0:0,g0:0,g0:0,l3>3:3/1 = 28", "perform = NOT_POSSIBLE", "stop 0 = 4", "stop 1 = BAD_VALUE");
        document.says("Returns the number (an error as it is, below 0);",
            "text b0 = 2", "perform = NOT_POSSIBLE", "stop 0 = 0", "stop 1 = -1", "lend 0 1 0 1 = 0..39", "text l0>1:0/1 = 8", "perform = NOT_POSSIBLE",
            "stop 0 = 0", "stop 1 = -3");
        document.says("BAD_VALUE;", "stop -1 = BAD_VALUE", "stop 2 = BAD_VALUE", "text b0 = 2", "perform = NOT_POSSIBLE", "stop 2 = BAD_VALUE", "stop least = BAD_VALUE");
        document.says("NONE if none was stopped yet.", "stop 0 = NONE", "stop 1 = NONE", "text q = 1", "perform = -100", "stop 0 = NONE", "stop 1 = NONE");
    }

    private static void undo(Document document) {
        document.says("int undo(): Removes and restores the latest state of the history.",
            "claim 1 1 yes = 1", "claim 2 1 yes = 2", "undo = 1", "cell 1 4 = 1", "count 7 = 1", "undo = 0", "cell 1 4 = 0", "count 7 = 0");
        document.says("Returns the number of states that are left;", "write 5 5 5 = 1..4", "undo = 3", "undo = 2", "undo = 1", "undo = 0");
        document.says("NONE if the history is empty.", "undo = NONE", "write 5 5 5 = 1", "undo = 0", "undo = NONE", "cell 5 1 = 0");
    }

    private static void keepAndRestore(Document document) {
        document.says("int keep(): Takes a snapshot of the state, in place of the one that was.",
            "write 5 5 5 = 1", "keep = 0", "write 5 5 6 = 2", "restore = 0", "cell 5 0 = 5", "write 5 5 7 = 2", "keep = 0", "write 5 5 8 = 3",
            "restore = 0", "cell 5 0 = 7", "cell 5 1 = 2");
        document.says("Returns how many loans stand.", "keep = 0", "lend 0 1 0 1 = 0..39", "keep = 40", "giveBack 3 = 25", "keep = 39", "count 7 = 4");
        document.says("int restore(): Restores the state of the snapshot, which stays.",
            "lend 2 4 2 9 = 0", "keep = 1", "giveBack 0 = 64", "restore = 1", "loan 0 3 = 9", "giveBack 0 = 64", "restore = 1", "loan 0 1 = 4",
            "part 4 2 0 = 9");
        document.says("This is an act.", "keep = 0", "write 1 1 1 = 1", "restore = 0", "count 7 = 2", "undo = 1", "cell 1 0 = 1");
        document.says("Returns how many loans stand then;", "lend 0 1 0 1 = 0..4", "keep = 5", "lend 0 1 0 1 = 5", "restore = 5", "count 0 = 5");
        document.says("NONE if there is no snapshot.", "restore = NONE", "write 1 1 1 = 1", "restore = NONE", "cell 1 1 = 1", "keep = 0", "restore = 0");
    }

    private static void cell(Document document) {
        document.says("int cell(int cell, int what): cell: 0 to 5", "cell -1 0 = UNKNOWN", "cell 0 2 = 0", "cell 5 2 = 5", "cell 6 0 = UNKNOWN");
        document.says("what: 0 for its value, 1 for its version, 2 for its owner, 3 for how many agents hold any part, 4 for its claims, "
            + "5 for the agent of its first claim (NONE without one), 6 for its loans, 7 for the agent who holds the whole (NONE if none does), "
            + "8 for how many agents hold on to it",
            "handOver 2 4 = 2", "write 4 2 345 = 1", "write 4 2 346 = 2", "cell 2 5 = NONE", "cell 2 7 = 4", "claim 3 2 yes = 1", "claim 0 2 yes = 2",
            "claim 5 2 yes = 3", "lend 4 1 2 10 = 0", "lend 4 1 2 10 = 1", "lend 4 3 2 10 = 2", "lend 3 0 2 5 = 3", "hold 1 2 yes = 346",
            "hold 0 2 yes = 346", "cell 2 0 = 346", "cell 2 1 = 2", "cell 2 2 = 4", "cell 2 3 = 4", "cell 2 4 = 3", "cell 2 5 = 3", "cell 2 6 = 4",
            "cell 2 7 = NONE", "cell 2 8 = 2");
        document.says("Returns the number;", "cell 3 0 = 0", "cell 3 1 = 0", "cell 3 2 = 3", "cell 3 3 = 1", "cell 3 4 = 0", "cell 3 6 = 0", "cell 3 7 = 3", "cell 3 8 = 0");
        document.says("UNKNOWN;", "cell 7 0 = UNKNOWN", "cell 7 9 = UNKNOWN", "cell least 0 = UNKNOWN", "cell greatest -1 = UNKNOWN");
        document.says("BAD_VALUE.", "cell 0 9 = BAD_VALUE", "cell 0 -1 = BAD_VALUE", "cell 5 greatest = BAD_VALUE");
    }

    private static void part(Document document) {
        document.says("int part(int agent, int cell, int what): agent: 0 to 5",
            "part -1 0 0 = UNKNOWN", "part 0 0 0 = 64", "part 5 5 0 = 64", "part 6 5 0 = UNKNOWN");
        document.says("cell: 0 to 5", "part 0 -1 0 = UNKNOWN", "part 0 0 0 = 64", "part 5 5 0 = 64", "part 5 6 0 = UNKNOWN");
        document.says("what: 0 for the parts that it holds, 1 for the parts that it lent (of loans that stand), 2 for the parts that it borrowed (likewise), "
            + "3 for whether it holds on (1, otherwise 0), 4 for the place of its claim, from 0 (NONE without one), "
            + "5 for the parts that it would hold if it gathered",
            "lend 1 3 1 30 = 0", "lend 1 3 1 4 = 1", "lend 3 5 1 6 = 2", "lend 3 0 1 7 = 3", "giveBack 1 = 34", "claim 2 1 yes = 1", "claim 3 1 yes = 2",
            "hold 3 1 yes = 0", "hold 5 1 yes = 0", "part 3 1 0 = 17", "part 3 1 1 = 13", "part 3 1 2 = 30", "part 3 1 3 = 1", "part 3 1 4 = 1",
            "part 3 1 5 = 24", "part 1 1 0 = 34", "part 1 1 1 = 30", "part 1 1 2 = 0", "part 1 1 3 = 0", "part 1 1 4 = NONE", "part 1 1 5 = 34",
            "part 3 1 0 = 17", "part 0 1 2 = 7");
        document.says("Returns the number;", "part 4 4 0 = 64", "part 4 4 1 = 0", "part 4 4 2 = 0", "part 4 4 3 = 0", "part 4 4 5 = 64", "part 3 4 0 = 0", "part 3 4 5 = 0");
        document.says("UNKNOWN (agent or cell);", "part 7 0 0 = UNKNOWN", "part 0 7 0 = UNKNOWN", "part 7 0 9 = UNKNOWN", "part 0 7 -1 = UNKNOWN");
        document.says("BAD_VALUE.", "part 0 0 6 = BAD_VALUE", "part 0 0 -1 = BAD_VALUE", "part 5 5 least = BAD_VALUE");
    }

    private static void loan(Document document) {
        document.says("int loan(int loan, int what): loan: a loan",
            "loan 0 0 = UNKNOWN", "lend 5 2 5 40 = 0", "loan 0 0 = 5", "loan 1 0 = UNKNOWN", "loan -1 0 = UNKNOWN");
        document.says("what: 0 for its lender, 1 for its borrower, 2 for its cell, 3 for its parts, 4 for whether it can be given back now (1, otherwise 0)",
            "lend 5 2 5 40 = 0", "lend 2 3 5 11 = 1", "loan 1 0 = 2", "loan 1 1 = 3", "loan 1 2 = 5", "loan 1 3 = 11", "loan 1 4 = 1", "loan 0 4 = 0",
            "giveBack 0 = NOT_POSSIBLE", "hold 3 5 yes = 0", "loan 1 4 = 0", "giveBack 1 = NOT_POSSIBLE", "hold 3 5 no = 0", "loan 1 4 = 1",
            "giveBack 1 = 40", "loan 0 4 = 1", "giveBack 0 = 64");
        document.says("Returns the number;", "lend 4 0 1 1 = NOT_POSSIBLE", "lend 1 0 1 64 = 0", "loan 0 0 = 1", "loan 0 1 = 0", "loan 0 2 = 1", "loan 0 3 = 64", "loan 0 4 = 1");
        document.says("UNKNOWN;", "loan 0 9 = UNKNOWN", "lend 1 0 1 64 = 0", "giveBack 0 = 64", "loan 0 0 = UNKNOWN", "loan 0 4 = UNKNOWN", "loan 0 5 = UNKNOWN");
        document.says("BAD_VALUE.", "lend 1 0 1 64 = 0", "loan 0 5 = BAD_VALUE", "loan 0 -1 = BAD_VALUE", "loan 0 greatest = BAD_VALUE");
    }

    private static void reason(Document document) {
        document.says("int reason(int agent, int cell): Tells why an agent that gathers a cell would not hold the whole.",
            "lend 4 3 4 20 = 0", "reason 4 4 = 0", "hold 3 4 yes = 0", "reason 4 4 = 1", "count 7 = 2", "part 3 4 0 = 20", "hold 3 4 no = 0", "reason 3 4 = 2");
        document.says("agent: 0 to 5", "reason -1 0 = UNKNOWN", "reason 0 0 = 0", "reason 5 5 = 0", "reason 6 0 = UNKNOWN");
        document.says("cell: 0 to 5", "reason 0 -1 = UNKNOWN", "reason 0 5 = 2", "reason 5 0 = 2", "reason 0 6 = UNKNOWN");
        document.says("Returns 0 it would;", "reason 4 4 = 0", "lend 4 3 4 64 = 0", "reason 4 4 = 0", "reason 3 4 = 0", "lend 3 2 4 10 = 1", "reason 3 4 = 0", "reason 4 4 = 0",
            "hold 3 4 yes = 0", "reason 3 4 = 0", "reason 4 4 = 1");
        document.says("1 it would not, and any agent (it or another one) holds on to the cell;",
            "lend 4 3 4 20 = 0", "hold 3 4 yes = 0", "reason 3 4 = 1", "reason 4 4 = 1", "reason 0 4 = 1", "hold 3 4 no = 0", "hold 4 4 yes = 0", "reason 3 4 = 1",
            "reason 0 4 = 1", "reason 4 4 = 0");
        document.says("2 otherwise;", "reason 0 4 = 2", "lend 4 3 4 20 = 0", "reason 3 4 = 2", "hold 3 3 yes = 0", "reason 3 4 = 2", "reason 4 4 = 0");
        document.says("UNKNOWN (agent or cell).", "reason 7 0 = UNKNOWN", "reason 0 7 = UNKNOWN", "reason least least = UNKNOWN");
    }

    private static void chain(Document document) {
        document.says("int chain(int cell): Tells the longest chain of loans of a cell: loans each of which (but the first) is lent by the borrower of the one "
            + "ahead of it, and none of whose agents, the first lender included, is in it twice.",
            "lend 2 1 2 9 = 0", "lend 2 3 2 9 = 1", "chain 2 = 1", "lend 3 0 2 9 = 2", "chain 2 = 2", "lend 0 2 2 9 = 3", "chain 2 = 3", "lend 1 3 2 9 = 4",
            "chain 2 = 3", "giveBack 0 = NOT_POSSIBLE", "lend 0 5 2 1 = NOT_POSSIBLE", "lend 3 4 2 1 = 5", "chain 2 = 4", "giveBack 4 = NOT_POSSIBLE",
            "lend 4 3 2 1 = 6", "chain 2 = 4", "giveBack 4 = 9", "chain 2 = 4", "undo = 3", "chain 2 = 4");
        document.says("cell: 0 to 5", "chain -1 = UNKNOWN", "chain 0 = 0", "chain 5 = 0", "chain 6 = UNKNOWN");
        document.says("Returns how many loans it has;", "chain 3 = 0", "lend 3 2 3 60 = 0", "chain 3 = 1", "lend 2 5 3 60 = 1", "chain 3 = 2", "lend 5 4 3 60 = 2", "chain 3 = 3",
            "lend 4 1 3 60 = 3", "chain 3 = 4", "lend 1 0 3 60 = 4", "chain 3 = 5", "lend 0 3 3 60 = 5", "chain 3 = 5");
        document.says("UNKNOWN.", "chain 7 = UNKNOWN", "chain least = UNKNOWN", "chain greatest = UNKNOWN");
    }

    private static void count(Document document) {
        document.says("int count(int what): what: 0 for loans that stand, 1 for loans that were made so far, 2 for cells that any one agent holds the whole of, "
            + "3 for claims of all cells, 4 for writes so far, 5 for loans that were given back so far, 6 for pairs of an agent and a cell to which it holds on, "
            + "7 for the states in the history, 8 for the length of the text",
            "lend 5 4 5 64 = 0", "lend 3 4 3 10 = 1", "lend 3 4 3 10 = 2", "lend 3 4 3 10 = 3", "lend 3 4 3 10 = 4", "giveBack 2 = 34", "count 0 = 4",
            "count 1 = 5", "count 5 = 1", "count 2 = 5", "claim 1 0 yes = 1", "claim 2 0 yes = 2", "claim 1 5 yes = 1", "count 3 = 3", "write 4 5 1 = 1",
            "write 0 0 1 = 1", "count 4 = 2", "hold 4 5 yes = 1", "hold 4 3 yes = 0", "hold 3 3 yes = 0", "count 6 = 3", "count 7 = 4", "type 44 = 1..9",
            "count 8 = 9", "undo = 3", "count 6 = 2", "count 7 = 3");
        document.says("Returns the number;", "count 0 = 0", "count 1 = 0", "count 2 = 6", "count 3 = 0", "count 4 = 0", "count 5 = 0", "count 6 = 0", "count 7 = 0",
            "count 8 = 0");
        document.says("BAD_VALUE.", "count -1 = BAD_VALUE", "count 9 = BAD_VALUE", "count least = BAD_VALUE", "count greatest = BAD_VALUE");
    }
}
