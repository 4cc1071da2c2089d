/** The edges of "TEXTS" and of promises 12 to 15, a run for each sentence. */
public final class TextsEdgesTest {
    private static final String SIXTY = "w0:0=1,w0:0=2,w0:0=3,w0:0=44,w0:0=55,w0:0=66,w0:0=77,w0:0=88";

    private TextsEdgesTest() {
    }

    public static void main(String[] args) {
        sixtyCharacters();
        anyCharacter();
        tooShort();
        letters();
        agentsAndCells();
        loanParts();
        loanNumbers();
        values();
        betweenActs();
        howMany();
        allOrNone();
        eachAct();
        whatDoesNothing();
        stops();
        Due.end();
    }

    /** The place at which a text has its fault; it is not performed then, and none is stopped. */
    private static void fault(String what, String text, int place) {
        Script.run(what + ": " + text,
            "text " + text + " = " + text.length(), "perform = " + (-100 - place), "count 7 = 0", "stop 0 = NONE", "count 8 = " + text.length());
    }

    /** A text without a fault is performed, or stopped. */
    private static void fine(String what, String text) {
        Calls object = new Calls(LentParts.class);
        Script.typed(object, text);
        Due.holds(what + ": " + text, object.call("perform") > -100);
    }

    private static void sixtyCharacters() {
        Script.run("empty at first", "count 8 = 0", "clearText = 0", "perform = -100");
        Script.run("type: FULL if it has 60 characters",
            "type 98 = 1..59", "count 8 = 59", "type 98 = 60", "type 98 = FULL", "type 44 = FULL", "count 8 = 60", "clearText = 60", "count 8 = 0",
            "clearText = 0", "type 98 = 1..60", "type 98 = FULL");
        Script.run("a text of 60 characters is performed whole", "text " + SIXTY + " = 60", "perform = 8", "cell 0 0 = 88", "cell 0 1 = 8");
        Script.run("a text of 60 characters with a fault ahead of its end", "text " + SIXTY.substring(0, 57) + "g0: = 60", "perform = -157");
        Script.run("a text of 60 characters that ends too early has its fault behind the last one",
            "text " + SIXTY.substring(0, 53) + "g0:0,w0 = 60", "perform = -160", "type 58 = FULL", "perform = -160", "text " + SIXTY.substring(0, 59) + ", = 60",
            "perform = -160");
        Script.run("a text of 60 characters with the last one at fault", "text " + SIXTY.substring(0, 59) + "x = 60", "perform = -159");
        Script.run("clearText returns the length that it had", "type 44 = 1", "clearText = 1", "clearText = 0", "type 44 = 1..7", "clearText = 7");
    }

    private static void anyCharacter() {
        Script.run("type: any character",
            "type 0 = 1", "type 65535 = 2", "type 127 = 3", "type 128 = 4", "type 255 = 5", "type 256 = 6", "type 55296 = 7", "type 32 = 8", "type 10 = 9",
            "count 8 = 9", "perform = -100", "clearText = 9");
        int[] signs = {0, 1, 9, 10, 13, 32, 47, 58, 127, 128, 255, 256, 0x660, 0x661, 0xff10, 0xff11, 0xd800, 0xfffe, 0xffff, 48 + 256, 49 + 65280};
        for (int sign : signs) {
            Script.run("no digit but 0 to 9: " + sign,
                "text g0: = 3", "type " + sign + " = 4", "perform = -103", "text b1 = 2", "type " + sign + " = 3", "perform = -102",
                "text l0>1:0/1 = 8", "type " + sign + " = 9", "perform = -108");
        }
        for (char sign : "lbwg".toCharArray()) {
            Script.run("no letter but l, b, w, g: one of more bits is another one",
                "type " + (sign + 256) + " = 1", "perform = -100", "clearText = 1", "type " + (sign + 65280) + " = 1", "perform = -100", "clearText = 1",
                "type " + (sign - 32) + " = 1", "perform = -100", "clearText = 1", "type " + (int) sign + " = 1", "perform = -101");
        }
        Script.run("the greatest character at the end of a text is at fault, and not its end", "text g0:0 = 4", "type 65535 = 5", "perform = -104");
    }

    /** Each beginning of an act that is no act, alone and behind others. */
    private static void tooShort() {
        String[] acts = {"l0>1:0/6", "b7", "w0:0=5", "g0:0"};
        for (String act : acts) {
            for (int length = 0; length < act.length(); length++) {
                String text = act.substring(0, length);
                if (length > 0) {
                    fault("the length of the text if it ends too early", text, length);
                }
                fault("the length of the text if it ends too early, behind another act", "g0:0," + text, 5 + length);
                fault("the length of the text if it ends too early, behind numbers", "l0>1:0/64,w5:5=999," + text, 19 + length);
            }
            fine("it does not end too early", act);
        }
        Script.run("the empty text ends too early", "perform = -100", "text b = 1", "clearText = 1", "perform = -100", "count 7 = 0");
    }

    private static void letters() {
        for (char sign : "acdefhijkmnopqrstuvxyz0159:>=/, LBWG".toCharArray()) {
            if (sign != ' ') {
                fault("an act begins with l, b, w or g", sign + "0:0", 0);
            }
            fault("an act begins with l, b, w or g, also the second one", "g0:0," + sign + "0:0", 5);
        }
        fault("a sign in another one's place", "l0:1:0/1", 2);
        fault("a sign in another one's place", "l0>1>0/1", 4);
        fault("a sign in another one's place", "l0>1:0=1", 6);
        fault("a sign in another one's place", "l0>1:0:1", 6);
        fault("a sign in another one's place", "w0>0=1", 2);
        fault("a sign in another one's place", "w0:0/1", 4);
        fault("a sign in another one's place", "g0>0", 2);
        fault("a sign in another one's place", "g0=0", 2);
        fault("a sign in another one's place", "b:0", 1);
        fault("a loan's form without its parts", "l0>1:0,g0:0", 6);
        fault("a writing's form without its value", "w0:0,g0:0", 4);
        fault("a gathering's form with a value", "g0:0=5", 4);
        fault("the first fault counts", "g6:6,x", 1);
    }

    private static void agentsAndCells() {
        for (int digit = 0; digit < 6; digit++) {
            fine("agents and cells are digits from 0 to 5", "l" + digit + ">" + digit + ":" + digit + "/1");
            fine("agents and cells are digits from 0 to 5", "w" + digit + ":" + digit + "=0");
            fine("agents and cells are digits from 0 to 5", "g" + digit + ":" + digit);
        }
        for (int digit = 6; digit < 10; digit++) {
            fault("agents are digits from 0 to 5", "l" + digit + ">1:0/1", 1);
            fault("agents are digits from 0 to 5", "l0>" + digit + ":0/1", 3);
            fault("cells are digits from 0 to 5", "l0>1:" + digit + "/1", 5);
            fault("agents are digits from 0 to 5", "w" + digit + ":0=1", 1);
            fault("cells are digits from 0 to 5", "w0:" + digit + "=1", 3);
            fault("agents are digits from 0 to 5", "g" + digit + ":0", 1);
            fault("cells are digits from 0 to 5", "g0:" + digit, 3);
        }
        fault("they are one digit", "g00:0", 2);
        fault("they are one digit", "g0:05", 4);
        fault("they are one digit", "w0:00=1", 4);
        fault("they are one digit", "l0>01:0/1", 4);
        fault("they are one digit", "l0>1:00/1", 6);
        fault("they are digits", "g-1:0", 1);
        fault("they are digits", "g:0", 1);
    }

    private static void loanParts() {
        for (int parts = 1; parts <= 64; parts++) {
            Script.run("parts are 1 to 64", "text l0>1:0/" + parts + " = " + (parts < 10 ? 8 : 9), "perform = 1", "part 1 0 0 = " + parts);
            fault("a third digit would make them greater than 64", "l0>1:0/" + parts + (parts < 10 ? "00" : "0"), parts < 7 ? 9 : parts < 10 ? 8 : 9);
        }
        fault("parts do not begin with 0", "l0>1:0/0", 7);
        fault("parts do not begin with 0", "l0>1:0/01", 7);
        fault("parts do not begin with 0", "l0>1:0/00", 7);
        fault("parts do not begin with 0", "l0>1:0/0,", 7);
        for (int digit = 5; digit < 10; digit++) {
            fault("a digit by which they would be greater than 64", "l0>1:0/6" + digit, 8);
        }
        for (int first = 7; first < 10; first++) {
            fault("a digit by which they would be greater than 64", "l0>1:0/" + first + "0", 8);
            fault("a digit by which they would be greater than 64", "l0>1:0/" + first + "9", 8);
            fine("one digit is not", "l0>1:0/" + first + ",g0:0");
        }
        fault("the fault is the digit, also with another one behind it", "l0>1:0/65,g0:0", 8);
        fault("the fault is the digit, however many there are", "l0>1:0/6400000000000", 9);
    }

    private static void loanNumbers() {
        for (String number : new String[] {"0", "1", "9", "10", "99", "100", "998", "999"}) {
            Script.run("the number of a loan is 0 to 999", "text b" + number + " = " + (1 + number.length()), "perform = NOT_POSSIBLE", "stop 1 = UNKNOWN");
            fine("the number of a loan is 0 to 999", "b" + number + ",g0:0");
        }
        fault("a digit by which it would be greater than 999", "b1000", 4);
        fault("a digit by which it would be greater than 999", "b9990", 4);
        fault("a digit by which it would be greater than 999", "b9999,g0:0", 4);
        fault("a digit by which it would be greater than 999, also with wrap-around", "b99999999999999999999", 4);
        fault("a digit by which it would be greater than 999, also with wrap-around", "b4294967296", 4);
        fault("without a zero in front", "b00", 2);
        fault("without a zero in front", "b01", 2);
        fault("without a zero in front", "b07,g0:0", 2);
        fault("without a zero in front", "b000", 2);
        fault("no sign in front", "b-1", 1);
        fault("no sign in front", "b+1", 1);
        Script.run("the single digit 0 is a number", "lend 0 1 0 5 = 0", "text b0 = 2", "perform = 1", "part 0 0 0 = 64");
        Script.run("two digits, and the greatest loan that stands",
            "lend 0 1 0 1 = 0..39", "text b39,b10,b9 = 10", "perform = 3", "count 0 = 37", "loan 9 0 = UNKNOWN", "loan 10 0 = UNKNOWN", "loan 39 0 = UNKNOWN",
            "text b40 = 3", "perform = NOT_POSSIBLE", "stop 1 = UNKNOWN");
    }

    private static void values() {
        for (int value : new int[] {0, 1, 9, 10, 99, 100, 101, 998, 999}) {
            String text = "w0:0=" + value;
            Script.run("a value is 0 to 999", "write 0 0 5 = 1", "text " + text + " = " + text.length(), "perform = 1", "cell 0 0 = " + value, "cell 0 1 = 2");
        }
        fault("a digit by which it would be greater than 999", "w0:0=1000", 8);
        fault("a digit by which it would be greater than 999", "w0:0=9990", 8);
        fault("a digit by which it would be greater than 999", "w0:0=9999,g0:0", 8);
        fault("a digit by which it would be greater than 999, also with wrap-around", "w0:0=42949672960", 8);
        fault("without a zero in front", "w0:0=00", 6);
        fault("without a zero in front", "w0:0=05", 6);
        fault("without a zero in front", "w0:0=0999", 6);
    }

    private static void betweenActs() {
        fault("one or more acts: none behind a ','", "g0:0,", 5);
        fault("one or more acts: none ahead of a ','", ",g0:0", 0);
        fault("one ',' between two", "g0:0,,g0:0", 5);
        fault("one ',' between two", "g0:0g0:0", 4);
        fault("one ',' between two", "b0b0", 2);
        fault("one ',' between two", "l0>1:0/6w0:0=1", 8);
        fault("one ',' between two", "w0:0=1l0>1:0/6", 6);
        fault("no other sign between two", "g0:0;g0:0", 4);
        fault("no other sign between two", "b1.b2", 2);
        fault("no blank", "g0:0, g0:0", 5);
        fault("no blank", "g0:0 ,g0:0", 4);
        fault("no blank", "g0:0 ", 4);
        fine("one act", "g0:0");
        fine("two acts", "g0:0,g1:1");
    }

    private static void howMany() {
        Script.run("as many acts as a text can have: seventeen loans given back, behind a ',' each",
            "lend 0 1 0 1 = 0..16", "text b0,b1,b2,b3,b4,b5,b6,b7,b8,b9,b10,b11,b12,b13,b14,b15,b16 = 57", "perform = 17", "count 0 = 0", "count 7 = 4",
            "undo = 3", "count 0 = 17");
        Script.run("twenty acts are read, and stopped by the second one",
            "lend 0 1 0 1 = 0", "text b0,b1,b2,b3,b4,b5,b6,b7,b8,b9,b0,b1,b2,b3,b4,b5,b6,b7,b8,b9 = 59", "perform = NOT_POSSIBLE", "stop 0 = 1",
            "loan 0 3 = 1");
        Script.run("twenty acts and a ',': the twenty-first is not there",
            "text b0,b1,b2,b3,b4,b5,b6,b7,b8,b9,b0,b1,b2,b3,b4,b5,b6,b7,b8,b9, = 60", "perform = -160");
        Script.run("returns how many acts there are, those that do nothing among them", "text g0:0 = 4", "perform = 1", "text g0:0,g1:1,w2:2=0,g2:2 = 21", "perform = 4");
    }

    private static void allOrNone() {
        Script.run("all of them, or none: the last act is stopped",
            "write 0 0 3 = 1", "text w0:0=5,l0>1:0/20,l0>2:0/45 = 26", "perform = NOT_POSSIBLE", "cell 0 0 = 3", "cell 0 1 = 1", "count 1 = 0",
            "part 0 0 0 = 64", "count 4 = 1", "count 7 = 1");
        Script.run("all of them, or none: the first act is stopped", "text b0,w0:0=5 = 9", "perform = NOT_POSSIBLE", "stop 0 = 0", "cell 0 0 = 0", "count 7 = 0");
        Script.run("one after the other: an act sees what those ahead of it did",
            "text l0>1:0/64,w1:0=9,b0,w0:0=8 = 26", "perform = 4", "cell 0 0 = 8", "cell 0 1 = 2", "count 1 = 1", "perform = NOT_POSSIBLE", "stop 0 = 2",
            "stop 1 = UNKNOWN", "count 1 = 1");
        Script.run("this is one act: one undo takes all of it back",
            "text l0>1:0/64,w1:0=9,b0,w0:0=8 = 26", "perform = 4", "count 7 = 1", "undo = 0", "count 1 = 0", "cell 0 1 = 0", "count 4 = 0");
        Script.run("the text stays, and can be performed again", "text w0:0=1,w0:0=2 = 13", "perform = 2", "perform = 2", "cell 0 1 = 4", "count 8 = 13",
            "type 52 = 14", "perform = 2", "cell 0 0 = 24");
        Script.run("a text with a fault is not begun", "text w0:0=5,w0:0=1000 = 16", "perform = -115", "cell 0 0 = 0", "cell 0 1 = 0", "count 7 = 0");
    }

    private static void eachAct() {
        Script.run("\"l\", an agent, \">\", an agent, \":\", a cell, \"/\", and parts: a loan",
            "text l4>2:4/63 = 9", "perform = 1", "loan 0 0 = 4", "loan 0 1 = 2", "loan 0 2 = 4", "loan 0 3 = 63", "part 4 4 0 = 1", "part 2 4 0 = 63");
        Script.run("\"b\" and the number of a loan: it is given back", "lend 4 2 4 63 = 0", "lend 4 3 4 1 = 1", "text b1 = 2", "perform = 1",
            "loan 1 0 = UNKNOWN", "loan 0 0 = 4", "part 4 4 0 = 1", "count 5 = 1");
        Script.run("\"w\", an agent, \":\", a cell, \"=\", a value: it writes",
            "lend 4 2 4 64 = 0", "text w2:4=321 = 8", "perform = 1", "cell 4 0 = 321", "cell 4 1 = 1", "cell 2 1 = 0", "count 4 = 1");
        Script.run("\"g\", an agent, \":\", a cell: it gathers, one that is not the owner",
            "lend 0 1 0 30 = 0", "lend 1 2 0 10 = 1", "lend 0 3 0 5 = 2", "text g1:0 = 4", "perform = 1", "part 1 0 0 = 30", "part 2 0 0 = 0", "part 3 0 0 = 5",
            "loan 0 3 = 30", "count 5 = 1");
        Script.run("\"g\", an agent, \":\", a cell: it gathers, a cell with a greater number",
            "lend 5 0 5 20 = 0", "lend 0 2 5 20 = 1", "lend 0 2 0 20 = 2", "text g0:5 = 4", "perform = 1", "part 0 5 0 = 20", "part 2 0 0 = 20",
            "count 5 = 1");
    }

    private static void whatDoesNothing() {
        Script.run("one that would return NONE does nothing, and stops nothing",
            "text w0:0=5,g0:0,w0:0=6 = 18", "perform = 3", "cell 0 0 = 6", "stop 0 = NONE");
        Script.run("also if all of them do nothing it is an act", "text g0:0,g1:1 = 9", "perform = 2", "count 7 = 1", "undo = 0", "undo = NONE");
        Script.run("a gathering that gets nothing leaves what the acts ahead of it did",
            "lend 0 1 0 64 = 0", "hold 1 0 yes = 0", "text w1:0=5,g0:0,l2>3:2/7 = 20", "perform = 3", "cell 0 0 = 5", "part 3 2 0 = 7", "loan 0 3 = 64");
    }

    private static void stops() {
        Script.run("stop: NONE if none was stopped yet", "stop 0 = NONE", "stop 1 = NONE", "text g0:0 = 4", "perform = 1", "stop 0 = NONE", "text g = 1",
            "perform = -101", "stop 1 = NONE");
        Script.run("stopped by UNKNOWN", "text b0 = 2", "perform = NOT_POSSIBLE", "stop 0 = 0", "stop 1 = UNKNOWN");
        Script.run("stopped by BAD_VALUE", "text l0>0:0/1 = 8", "perform = NOT_POSSIBLE", "stop 0 = 0", "stop 1 = BAD_VALUE");
        Script.run("stopped by NOT_POSSIBLE",
            "text g0:0,w1:0=1 = 11", "perform = NOT_POSSIBLE", "stop 0 = 1", "stop 1 = NOT_POSSIBLE", "text l1>0:0/1 = 8", "perform = NOT_POSSIBLE",
            "stop 0 = 0", "stop 1 = NOT_POSSIBLE", "lend 0 1 0 9 = 0", "hold 1 0 yes = 0", "text g0:0,g0:0,b0 = 12", "perform = NOT_POSSIBLE",
            "stop 0 = 2", "stop 1 = NOT_POSSIBLE");
        Script.run("stopped by FULL", "lend 0 1 0 1 = 0..39", "text g1:0,l0>1:0/1 = 13", "perform = NOT_POSSIBLE", "stop 0 = 1", "stop 1 = FULL");
        Script.run("BAD_VALUE ahead of NOT_POSSIBLE in an act too", "text l1>1:0/1 = 8", "perform = NOT_POSSIBLE", "stop 1 = BAD_VALUE");
        Script.run("the latest stop, and the act's number in its text",
            "text b0 = 2", "perform = NOT_POSSIBLE", "text g0:0,g0:0,g0:0,l0>0:0/1 = 23", "perform = NOT_POSSIBLE", "stop 0 = 3", "stop 1 = BAD_VALUE",
            "clearText = 23", "stop 0 = 3", "perform = -100", "stop 0 = 3", "text g0:0 = 4", "perform = 1", "stop 0 = 3", "stop 1 = BAD_VALUE",
            "stop 0 = 3");
        Script.run("a stop that stops no more: the act is possible then",
            "text b0 = 2", "perform = NOT_POSSIBLE", "lend 0 1 0 5 = 0", "perform = 1", "stop 0 = 0", "stop 1 = UNKNOWN");
    }
}
