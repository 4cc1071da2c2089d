import java.util.ArrayList;
import java.util.List;

/** Promises 12 to 15: type, clearText, perform, stop. */
public final class TextsTest {
    private TextsTest() {
    }

    public static void main(String[] args) {
        type();
        faults();
        everySign();
        perform();
        allOrNone();
        stops();
        Due.end();
    }

    private static void type() {
        List<String> lines = new ArrayList<>();
        lines.add("clearText = 0");
        for (int i = 1; i <= 60; i++) {
            lines.add("type " + (i % 2 == 0 ? 65535 : 0) + " = " + i);
        }
        lines.add("type 108 = FULL");
        lines.add("count 8 = 60");
        lines.add("perform = -100");
        lines.add("count 7 = 0");
        lines.add("clearText = 60");
        lines.add("clearText = 0");
        lines.add("type 108 = 1");
        lines.add("undo = NONE");
        lines.add("keep = 0");
        lines.add("type 108 = 2");
        lines.add("restore = 0");
        lines.add("count 8 = 2");
        lines.add("write 0 0 1 = 1");
        lines.add("type 108 = 3");
        lines.add("undo = 1");
        lines.add("count 8 = 3");
        lines.add("perform = -101");
        Script.run("promises 12 and 13", lines.toArray(new String[0]));
    }

    private static void fault(String text, int due) {
        Script.run("promise 14, faults", "text " + text + " = " + text.length(), "perform = " + (-100 - due),
            "stop 0 = NONE", "count 7 = 0", "count 8 = " + text.length());
    }

    private static void faults() {
        String[] texts = {
            "", "l", "l0", "l0>", "l0>1", "l0>1:", "l0>1:0", "l0>1:0/", "b", "w", "w0", "w0:", "w0:0", "w0:0=",
            "g", "g0", "g0:", "g0:0,", "b0,", "b999,", "w0:0=999,", "l0>1:0/64,", "b0,g0:0,w0:0=5,l",
        };
        for (String text : texts) {
            if (text.isEmpty()) {
                Script.run("promise 14, no text", "text = 0", "perform = -100", "count 7 = 0");
            } else {
                fault(text, text.length());
            }
        }
        fault("x", 0);
        fault(",", 0);
        fault("g0:0,,", 5);
        fault("g0:0;", 4);
        fault("g0:00", 4);
        fault("g6:0", 1);
        fault("g0:6", 3);
        fault("g-1:0", 1);
        fault("G0:0", 0);
        fault(" g0:0", 0);
        fault("g0:0 ", 4);
        fault("l6>1:0/1", 1);
        fault("l0>6:0/1", 3);
        fault("l0>1:6/1", 5);
        fault("l0:1:0/1", 2);
        fault("l0>1>0/1", 4);
        fault("l0>1:0=1", 6);
        fault("l0>1:0/0", 7);
        fault("l0>1:0/65", 8);
        fault("l0>1:0/70", 8);
        fault("l0>1:0/640", 9);
        fault("l0>1:0/100", 9);
        fault("l0>1:0/01", 7);
        fault("l0>1:0/x", 7);
        fault("l0>1:0/6x", 8);
        fault("l00>1:0/6", 2);
        fault("b00", 2);
        fault("b01", 2);
        fault("b1000", 4);
        fault("b9990", 4);
        fault("b-1", 1);
        fault("bx", 1);
        fault("b1x", 2);
        fault("w0:0=1000", 8);
        fault("w0:0=00", 6);
        fault("w0:0=05", 6);
        fault("w0:0/5", 4);
        fault("w0>0=5", 2);
        fault("w0:0=", 5);
        fault("b0,b0,b0,b0,b0,b0,b0,b0,b0,b0,b0,b0,b0,b0,b0,b0,b0,b0,b0,b0,", 60);
        fault("b0,b0,b0,b0,b0,b0,b0,b0,b0,b0,b0,b0,b0,b0,b0,b0,b0,b0,b0,b0;", 59);
    }

    /** Each sign from 0 to 255, and some beyond, at each place of a text that is fine. */
    private static void everySign() {
        String text = "l0>1:0/12,b10,w0:0=10,g0:0,b0";
        for (int place = 0; place < text.length(); place++) {
            for (int sign = 0; sign < 300; sign++) {
                String changed = text.substring(0, place) + (char) (sign < 256 ? sign : 0xff00 + sign - 256);
                Calls object = new Calls(LentParts.class);
                Script.typed(object, changed);
                int fault = Model.fault(changed);
                int got = object.call("perform");
                Due.holds("a fault at " + place + " for sign " + sign, fault < 0 ? got > -100 : got == -100 - fault);
            }
        }
    }

    private static void perform() {
        Script.run("promise 14",
            "text l0>1:0/20,l1>2:0/20,w3:3=999,b1,g0:0,g0:0,w0:0=0 = 48", "perform = 7", "count 7 = 1", "cell 3 0 = 999",
            "count 1 = 2", "count 5 = 2", "cell 0 1 = 1", "count 8 = 48", "undo = 0", "count 1 = 0", "cell 3 0 = 0",
            "count 4 = 0", "perform = 7", "count 4 = 2", "stop 0 = NONE");
        Script.run("promise 14, acts that do nothing",
            "text g0:0,g1:0 = 9", "perform = 2", "count 7 = 1", "undo = 0", "undo = NONE");
        Script.run("promise 14, every kind alone",
            "text l5>4:5/64 = 9", "perform = 1", "part 4 5 0 = 64", "text w4:5=123 = 8", "perform = 1", "read 4 5 = 123",
            "text b0 = 2", "perform = 1", "part 5 5 0 = 64", "text l5>4:5/1 = 8", "perform = 1", "text g5:5 = 4",
            "perform = 1", "count 5 = 2", "text b1 = 2", "perform = NOT_POSSIBLE", "stop 1 = UNKNOWN");
        Script.run("promise 14, twenty acts",
            "lend 1 0 1 1 = 0", "text b0,g0:0,g0:0,g0:0,g0:0,g0:0,g0:0,g0:0,g0:0,g0:0,g0:0,g0:0 = 57", "perform = 12",
            "text b0,b0,b0,b0,b0,b0,b0,b0,b0,b0,b0,b0,b0,b0,b0,b0,b0,b0,b0,b0 = 59", "perform = NOT_POSSIBLE", "stop 0 = 0",
            "undo = 1", "perform = NOT_POSSIBLE", "stop 0 = 1", "stop 1 = UNKNOWN");
    }

    private static void allOrNone() {
        Script.run("promise 14, all or none",
            "write 0 0 3 = 1", "text w0:0=5,l0>1:0/20,l0>2:0/45 = 26", "perform = NOT_POSSIBLE", "stop 0 = 2",
            "stop 1 = NOT_POSSIBLE", "cell 0 0 = 3", "cell 0 1 = 1", "count 0 = 0", "count 1 = 0", "count 4 = 1",
            "part 0 0 0 = 64", "count 7 = 1", "count 8 = 26", "lend 0 1 0 1 = 0");
        Script.run("promise 14, a gathering that is taken back",
            "lend 0 1 0 20 = 0", "lend 1 2 0 10 = 1", "text g0:0,b1 = 7", "perform = NOT_POSSIBLE", "stop 0 = 1",
            "stop 1 = UNKNOWN", "part 2 0 0 = 10", "count 5 = 0", "count 7 = 2", "giveBack 1 = 20");
    }

    private static void stops() {
        Script.run("promise 15",
            "stop -1 = BAD_VALUE", "stop 2 = BAD_VALUE", "stop 0 = NONE", "stop 1 = NONE",
            "text g0:0,l1>1:0/1 = 13", "perform = NOT_POSSIBLE", "stop 0 = 1", "stop 1 = BAD_VALUE",
            "stop 2 = BAD_VALUE", "stop 2147483647 = BAD_VALUE", "stop -2147483648 = BAD_VALUE",
            "text w1:0=1 = 6", "perform = NOT_POSSIBLE", "stop 0 = 0", "stop 1 = NOT_POSSIBLE",
            "text w1:0= = 5", "perform = -105", "stop 0 = 0", "stop 1 = NOT_POSSIBLE",
            "text g0:0,g0:0,b7 = 12", "perform = NOT_POSSIBLE", "stop 0 = 2", "stop 1 = UNKNOWN",
            "text g0:0 = 4", "perform = 1", "stop 0 = 2", "stop 1 = UNKNOWN", "keep = 0", "restore = 0", "stop 0 = 2",
            "undo = 1", "undo = 0", "stop 0 = 2", "stop 1 = UNKNOWN", "clearText = 4", "stop 0 = 2");
        List<String> lines = new ArrayList<>();
        for (int loan = 0; loan < 40; loan++) {
            lines.add("lend 0 1 0 1 = " + loan);
        }
        lines.add("text b0,b1,l2>3:2/1,l2>3:2/1,l2>3:2/1,g0:0 = 37");
        lines.add("perform = NOT_POSSIBLE");
        lines.add("stop 0 = 4");
        lines.add("stop 1 = FULL");
        lines.add("count 0 = 40");
        lines.add("count 1 = 40");
        lines.add("loan 0 3 = 1");
        Script.run("promise 15, no room", lines.toArray(new String[0]));
    }
}
