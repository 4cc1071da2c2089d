/**
 * Runs of calls on new objects, a line each: "name arguments = answer". An answer may be a constant's
 * name; "= 3..5" makes the call three times, with the answers 3, 4 and 5, "= 5..3" with 5, 4 and 3,
 * and "= 7 times 4" four times with the answer 7; a hold or claim ends in "yes" or "no"; "text ..." empties the text, types the rest and answers
 * the length that it has then.
 */
final class Script {
    /** The document promises nothing of more calls of one object. */
    static final int MOST_CALLS = 512;

    private Script() {
    }

    /** A run on a new object. */
    static void run(String what, String... lines) {
        Calls object = new Calls(LentParts.class);
        play(what, object, lines);
        Due.holds(what + ": a run of at most " + MOST_CALLS + " calls", object.made() <= MOST_CALLS);
    }

    /** A run, or a part of one, on an object that there is. */
    static void play(String what, Calls object, String... lines) {
        for (int i = 0; i < lines.length; i++) {
            line(what + ", line " + (i + 1), object, lines[i]);
        }
    }

    private static void line(String where, Calls object, String line) {
        int split = line.lastIndexOf(" = ");
        String call = line.substring(0, split);
        String due = line.substring(split + 3);
        int times = due.indexOf(" times ");
        int dots = due.indexOf("..");
        if (times >= 0) {
            for (int turn = number(due.substring(times + 7)); turn > 0; turn--) {
                Due.is(where + ": " + call, answer(object, call), number(due.substring(0, times)));
            }
            return;
        }
        if (dots < 0) {
            Due.is(where + ": " + call, answer(object, call), number(due));
            return;
        }
        int first = number(due.substring(0, dots));
        int last = number(due.substring(dots + 2));
        int step = first <= last ? 1 : -1;
        for (int answer = first; answer != last + step; answer += step) {
            Due.is(where + ": " + call, answer(object, call), answer);
        }
    }

    /** What the object answers to a call that is written like the ones of a run, without the answer. */
    static int answer(Calls object, String call) {
        if (call.equals("text") || call.startsWith("text ")) {
            return typed(object, call.substring(Math.min(5, call.length())));
        }
        String[] words = call.split(" ");
        int[] arguments = new int[words.length - 1];
        for (int i = 0; i < arguments.length; i++) {
            arguments[i] = number(words[i + 1]);
        }
        return object.call(words[0], arguments);
    }

    static int typed(Calls object, String text) {
        object.call("clearText");
        int length = 0;
        for (int i = 0; i < text.length(); i++) {
            length = object.call("type", text.charAt(i));
        }
        return length;
    }

    private static int number(String word) {
        switch (word) {
            case "UNKNOWN": return LentParts.UNKNOWN;
            case "BAD_VALUE": return LentParts.BAD_VALUE;
            case "FULL": return LentParts.FULL;
            case "NOT_POSSIBLE": return LentParts.NOT_POSSIBLE;
            case "NONE": return LentParts.NONE;
            case "yes": return 1;
            case "no": return 0;
            case "least": return Integer.MIN_VALUE;
            case "greatest": return Integer.MAX_VALUE;
            default: return Integer.parseInt(word);
        }
    }
}
