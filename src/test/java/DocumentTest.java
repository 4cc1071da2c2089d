import java.io.IOException;
import java.nio.file.Files;
import java.nio.file.Path;

/** The whole document, sentence by sentence, in its order; run in the project's folder. */
public final class DocumentTest {
    private static final Path PROGRAM = Path.of("src/main/java/LentParts.java");
    private static final String[] FACE = {
        "public final class LentParts {",
        "public static final int UNKNOWN = -1;", "public static final int BAD_VALUE = -2;", "public static final int FULL = -3;",
        "public static final int NOT_POSSIBLE = -4;", "public static final int NONE = -5;",
        "public LentParts();",
        "public int lend(int from, int to, int cell, int parts);", "public int half(int from, int to, int cell);", "public int giveBack(int loan);",
        "public int gather(int agent, int cell);",
        "public int hold(int agent, int cell, boolean hold);", "public int write(int agent, int cell, int value);", "public int read(int agent, int cell);",
        "public int claim(int agent, int cell, boolean wants);", "public int serve(int cell);", "public int handOver(int cell, int to);",
        "public int type(char character);", "public int clearText();", "public int perform();", "public int stop(int what);",
        "public int undo();", "public int keep();", "public int restore();",
        "public int cell(int cell, int what);", "public int part(int agent, int cell, int what);", "public int loan(int loan, int what);",
        "public int reason(int agent, int cell);", "public int chain(int cell);", "public int count(int what);",
        "}",
    };
    /** What the interface says ahead of which calls. */
    private static final String[][] HEADS = {
        {"loans", "lend", "half", "giveBack", "gather"}, {"reading and writing", "hold", "write", "read"}, {"claims", "claim", "serve", "handOver"},
        {"texts", "type", "clearText", "perform", "stop"}, {"history", "undo", "keep", "restore"},
        {"what is told", "cell", "part", "loan", "reason", "chain", "count"},
    };

    private DocumentTest() {
    }

    public static void main(String[] args) throws IOException {
        Document document = new Document();
        String program = Files.readString(PROGRAM);
        whatItIs(document);
        face(document, program);
        DocumentTerms.all(document);
        heads(document, program);
        DocumentPromises.all(document);
        notPromised(document);
        document.end();
        Due.end();
    }

    private static void whatItIs(Document document) {
        document.says("Permissions in parts: cells whose 64 parts are held by agents, lent on in halves and other shares, given back and gathered, "
            + "so that who holds any part can read a cell, and only who holds the whole can write it; loans that hang on other loans, "
            + "readers who hold on to what they read, claims of those who want to write, in their order, cells that are written and how often, "
            + "what an agent could gather, why it cannot, chains of loans, acts that are read from a text with the places and causes of faults, "
            + "undo and a snapshot.",
            "cell 4 7 = 4", "half 4 1 4 = 32", "lend 1 2 4 5 = 1", "read 2 4 = 0", "read 3 4 = NOT_POSSIBLE", "write 4 4 9 = NOT_POSSIBLE",
            "giveBack 0 = NOT_POSSIBLE", "hold 2 4 yes = 0", "claim 5 4 yes = 1", "claim 1 4 yes = 2", "part 4 4 5 = 32", "reason 4 4 = 1",
            "chain 4 = 2", "hold 2 4 no = 0", "part 4 4 5 = 64", "reason 4 4 = 0", "gather 4 4 = 64", "write 4 4 9 = 1", "cell 4 1 = 1", "count 4 = 1",
            "text w4:4=8,b1 = 9", "perform = NOT_POSSIBLE", "stop 0 = 1", "stop 1 = UNKNOWN", "cell 4 0 = 9", "text w4:4= = 5", "perform = -105",
            "keep = 0", "serve 4 = 5", "part 5 4 0 = 64", "undo = 3", "part 5 4 0 = 0", "serve 4 = 5", "serve 4 = 1", "restore = 0", "cell 4 4 = 2");
        document.says("An object is used for at most 512 calls after it has been made; what later calls answer is free.",
            "write 4 4 7 = 1..100", "half 4 1 4 = 32", "giveBack 0 = 64", "write 4 4 8 = 101..508", "cell 4 1 = 508", "count 4 = 508");
    }

    /** The document's lines stand in the program in their order, and no other ones of its kind between them. */
    private static void face(Document document, String program) {
        int place = 0;
        for (String line : FACE) {
            document.title(line);
            String written = line.endsWith(");") ? line.substring(0, line.length() - 1) + " {" : line;
            int found = program.indexOf(written, place);
            Due.holds("the program says, in the order of the document: " + written, found >= 0);
            place = Math.max(place, found);
        }
        int outside = 0;
        for (String line : program.split("\n")) {
            outside += line.contains("public ") && !line.contains("*") ? 1 : 0;
        }
        Due.is("lines with public", outside, FACE.length - 1);
        document.title("CELLS, AGENTS, PARTS");
    }

    private static void heads(Document document, String program) {
        int place = 0;
        for (String[] head : HEADS) {
            StringBuilder calls = new StringBuilder("Ahead of the calls ");
            int found = program.indexOf("// ---- " + head[0] + "\n", place);
            Due.holds("the program says ahead of " + head[1] + ": ---- " + head[0], found >= place);
            place = Math.max(place, found);
            for (int call = 1; call < head.length; call++) {
                calls.append(head[call]).append(call < head.length - 1 ? ", " : " the interface says: ---- ");
                int called = program.indexOf("public int " + head[call] + "(", place);
                int other = program.indexOf("// ---- ", place + 1);
                Due.holds(head[call] + " stands under ---- " + head[0], called >= 0 && called < other);
            }
            document.title(calls.append(head[0]).append(".").toString());
        }
    }

    private static void notPromised(Document document) {
        document.title("How the state is held inside the object is free, as are the speed of each call, the text of toString and the behaviour of equals and hashCode.");
        document.title("Use of one object from several threads at once is not promised to be safe.");
        document.title("Nothing is promised beyond the answers and state changes described above, and nothing about an object after its 512th call.");
        Calls one = new Calls(LentParts.class);
        Calls other = new Calls(LentParts.class);
        Script.play("one of two objects", one, "write 0 0 5 = 1", "text w0:0=1 = 6", "keep = 0", "perform = 1");
        Script.play("the other one knows nothing of it", other, "cell 0 1 = 0", "count 8 = 0", "restore = NONE", "undo = NONE", "perform = -100");
        Script.play("nor the first one of this", one, "cell 0 0 = 1", "count 8 = 6", "count 7 = 2", "restore = 0", "cell 0 0 = 5");
    }
}
