/**
 * Runs of calls, written as lines "name arguments = answer". An answer may be a constant's name;
 * a hold or claim ends in "yes" or "no"; "text ..." empties the text, types the rest and answers
 * the length that it has then.
 */
final class Script {
    private Script() {
    }

    /** A run on a new object. */
    static void run(String what, String... lines) {
        Calls object = new Calls(LentParts.class);
        for (int i = 0; i < lines.length; i++) {
            line(what + ", line " + (i + 1), object, lines[i]);
        }
    }

    private static void line(String where, Calls object, String line) {
        int split = line.lastIndexOf(" = ");
        String call = line.substring(0, split);
        int due = number(line.substring(split + 3));
        Due.is(where + ": " + call, answer(object, call), due);
    }

    private static int answer(Calls object, String call) {
        if (call.equals("text") || call.startsWith("text ")) {
            return typed(object, call.substring(Math.min(5, call.length())));
        }
        String[] words = call.split(" ");
        int[] arguments = new int[words.length - 1];
        for (int i = 0; i < arguments.length; i++) {
            arguments[i] = number(words[i + 1]);
        }
        return object.call(words[0], arguments);
    }

    static int typed(Calls object, String text) {
        object.call("clearText");
        int length = 0;
        for (int i = 0; i < text.length(); i++) {
            length = object.call("type", text.charAt(i));
        }
        return length;
    }

    private static int number(String word) {
        switch (word) {
            case "UNKNOWN": return LentParts.UNKNOWN;
            case "BAD_VALUE": return LentParts.BAD_VALUE;
            case "FULL": return LentParts.FULL;
            case "NOT_POSSIBLE": return LentParts.NOT_POSSIBLE;
            case "NONE": return LentParts.NONE;
            case "yes": return 1;
            case "no": return 0;
            default: return Integer.parseInt(word);
        }
    }
}
