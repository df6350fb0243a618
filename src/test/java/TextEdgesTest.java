/** Sentences of "Texts" and of the promises 15 to 18, at their edges and just beyond. */
public final class TextEdgesTest {
    private static final String ORDER = "+12,34,56,78,90;";
    private static final int[] NUMBER_ENDS = {3, 6, 9, 12, 15};

    /** Box 7 is there. */
    private static BoxCourt written(String text) {
        BoxCourt x = new BoxCourt();
        x.put(7, 1, 1, 2, 2);
        Checks.write(x, text);
        return x;
    }

    private static void fault(String text, int place, int reason, int cause) {
        BoxCourt x = written(text);
        Checks.due("fault(0) of " + text, x.fault(0), place);
        Checks.due("fault(1) of " + text, x.fault(1), reason);
        Checks.due("fault(2) of " + text, x.fault(2), cause);
        Checks.due("play of " + text, x.play(), Checks.NOT_POSSIBLE);
        Checks.due("changes by " + text, x.count(8), 1);
        Checks.due("boxes after " + text, x.nodeOf(0, 0, 5), 1 << 7);
        Checks.due("length of " + text, x.clearText(), text.length());
    }

    private static void noFault(String text, int orders, int boxes) {
        BoxCourt x = written(text);
        for (int what = 0; what < 3; what++) {
            Checks.due("fault(" + what + ") of " + text, x.fault(what), Checks.NOT_FOUND);
        }
        Checks.due("play of " + text, x.play(), orders);
        Checks.due("changes by " + text, x.count(8), 2);
        Checks.due("boxes after " + text, x.count(0), boxes);
        Checks.due("length of " + text, x.count(9), text.length());
    }

    private static void lengths() {
        Checks.sentence("There is a text of at most 60 characters, initially empty");
        BoxCourt x = new BoxCourt();
        Checks.due("count(9)", x.count(9), 0);
        Checks.due("clearText", x.clearText(), 0);
        for (int i = 1; i <= 60; i++) {
            Checks.due("type " + i, x.type('+'), i);
        }
        Checks.sentence("INVALID_ARGUMENT if character is out of range; LIMIT_REACHED if it has 60 characters.");
        for (int character = 30; character <= 128; character++) {
            Checks.due("type 61, " + character, x.type(character),
                    character < 32 || character > 126 ? Checks.INVALID : Checks.LIMIT);
        }
        Checks.due("count(9)", x.count(9), 60);
        Checks.sentence("Returns the length it had.");
        Checks.due("clearText", x.clearText(), 60);
        Checks.due("clearText again", x.clearText(), 0);
        Checks.due("type", x.type('-'), 1);
        Checks.due("clearText of one", x.clearText(), 1);
        Checks.due("fault", x.fault(0), Checks.NOT_FOUND);
    }

    private static void characters() {
        Checks.sentence("`character`: 32 to 126");
        BoxCourt x = new BoxCourt();
        Checks.due("type(32)", x.type(32), 1);
        Checks.due("type(126)", x.type(126), 2);
        for (int out : new int[] {31, 127, 0, -1, 10, 128, 256 + 43, Checks.MIN, Checks.MAX}) {
            Checks.due("type(" + out + ")", x.type(out), Checks.INVALID);
        }
        Checks.due("count(9)", x.count(9), 2);
        for (int i = 32; i <= 126; i++) {
            BoxCourt y = new BoxCourt();
            Checks.due("type(" + i + ")", y.type(i), 1);
            boolean begins = i == '+' || i == '-';
            Checks.due("fault(2) of " + (char) i, y.fault(2), begins ? 1 : 0);
        }
    }

    private static void form() {
        Checks.sentence("its reason is 1 if it is not of this form, its \";\" included");
        noFault(ORDER, 1, 2);
        fault(ORDER.substring(0, 15), 0, 1, 15);
        noFault("-7;", 1, 0);
        fault("-7", 0, 1, 2);
        fault("-7,", 0, 1, 2);
        fault("-7;;", 3, 1, 0);
        fault("-7; ", 3, 1, 0);
        fault("- 7;", 0, 1, 1);
        fault("--7;", 0, 1, 1);
        fault("7;", 0, 1, 0);
        fault("+12,34,56,78;", 0, 1, 12);
        fault("+12,34,56,78,90,", 0, 1, 15);
        fault("-7,1,1,2,2;", 0, 1, 2);

        Checks.sentence("numbers of 1 or 2 digits, 0 ahead allowed");
        noFault("+1,2,3,4,5;", 1, 2);
        noFault("+01,02,03,04,05;", 1, 2);
        noFault("+00,00,00,00,00;", 1, 2);
        noFault("+0,0,0,0,0;", 1, 2);
        noFault("+0,99,99,99,99;", 1, 2);
        noFault("-07;", 1, 0);
        fault("-007;", 0, 1, 3);
        fault("-;", 0, 1, 1);
        for (int number = 0; number < NUMBER_ENDS.length; number++) {
            int end = NUMBER_ENDS[number];
            fault(ORDER.substring(0, end) + "0" + ORDER.substring(end), 0, 1, end);
            fault(ORDER.substring(0, end - 2) + "0" + ORDER.substring(end - 2), 0, 1, end);
            fault(ORDER.substring(0, end - 2) + ORDER.substring(end), 0, 1, end - 2);
        }
    }

    private static void breaksOff() {
        Checks.sentence("for the reason 1, at which character of the order it breaks off (0 for its first one; of an order "
                + "that the text ends too early it is its length)");
        for (int k = 0; k < ORDER.length(); k++) {
            fault(ORDER.substring(0, k) + "x" + ORDER.substring(k + 1), 0, 1, k);
            fault("-7;" + ORDER.substring(0, k) + "/" + ORDER.substring(k + 1), 3, 1, k);
            fault("-7;" + ORDER.substring(0, k) + ":" + ORDER.substring(k + 1), 3, 1, k);
        }
        for (int length = 1; length < ORDER.length(); length++) {
            fault(ORDER.substring(0, length), 0, 1, length);
            fault("-7;" + ORDER.substring(0, length), 3, 1, length);
        }
        fault("-7;-", 3, 1, 1);
        fault("-7;-1", 3, 1, 2);
        fault("-7;-01", 3, 1, 3);
        noFault("-7;", 1, 0);
        fault("+0,0,0,0,0;+1,0,0,0,0;+2,0,0,0,0;+3,0,0,0,0;+4,0,0,0,0;-01", 55, 1, 3);
        fault("+0,0,0,0,0;+1,0,0,0,0;+2,0,0,0,0;+3,0,0,0,0;+4,0,0,0,0;+5,0,", 55, 1, 5);
    }

    /** What was in the text before it was emptied is not in it any more. */
    private static void writtenAnew() {
        Checks.sentence("Empties the text.");
        String[][] pairs = {{"-7;", "-7"}, {"-07;", "-0"}, {"+8,1,1,2,2;", "+8,1,1,2"}, {"+8,1,1,2,2;", "+8,1,"},
            {"+8,1,1,2,22;", "+8,1,1,2,2"}};
        for (String[] pair : pairs) {
            BoxCourt x = written(pair[0]);
            Checks.due(pair[0], x.fault(1), Checks.NOT_FOUND);
            Checks.due("length it had", x.clearText(), pair[0].length());
            Checks.write(x, pair[1]);
            Checks.due(pair[1] + " after " + pair[0], x.fault(1), 1);
            Checks.due(pair[1] + " after " + pair[0] + ", cause", x.fault(2), pair[1].length());
            Checks.due(pair[1] + " after " + pair[0] + ", play", x.play(), Checks.NOT_POSSIBLE);
        }
    }

    private static void wrongNumbers() {
        Checks.sentence("2 if a number of a box is above 30, or a low one is greater than its high one");
        noFault("+30,1,1,1,1;", 1, 2);
        fault("+31,1,1,1,1;", 0, 2, 0);
        fault("+99,1,1,1,1;", 0, 2, 0);
        noFault("+30,1,1,1,1;-30;", 2, 1);
        fault("-31;", 0, 2, 0);
        fault("-99;", 0, 2, 0);
        noFault("+8,5,5,5,5;", 1, 2);
        fault("+8,6,5,5,5;", 0, 2, 1);
        fault("+8,5,6,5,5;", 0, 2, 2);
        fault("+8,5,6,9,5;", 0, 2, 2);
        fault("+8,6,5,5,9;", 0, 2, 1);
        noFault("+8,1,9,2,9;", 1, 2);
        noFault("+8,9,1,9,2;", 1, 2);
        fault("+8,99,0,98,0;", 0, 2, 1);
        fault("+8,0,99,0,98;", 0, 2, 2);
        noFault("+8,9,1,10,1;", 1, 2);
        fault("+8,10,1,9,1;", 0, 2, 1);
        Checks.sentence("for the reason 2 which of its numbers it is, from 0 (of a low and a high one the low one), the "
                + "first one that is wrong");
        fault("+31,6,6,5,5;", 0, 2, 0);
        fault("+31,6,5,5,5;", 0, 2, 0);
        fault("+31,5,6,5,5;", 0, 2, 0);
        fault("+30,6,6,5,5;", 0, 2, 1);
        fault("+30,5,6,5,5;", 0, 2, 2);
        fault("-7;+31,6,6,5,5;", 3, 2, 0);
    }

    private static void thereOrNot() {
        Checks.sentence("and 3 if there is such a box already, or is no such one, when those ahead of it are done");
        fault("+7,1,1,1,1;", 0, 3, Checks.NOT_FOUND);
        fault("+07,1,1,1,1;", 0, 3, Checks.NOT_FOUND);
        noFault("-7;+7,1,1,1,1;", 2, 1);
        fault("-7;+7,1,1,1,1;+7,1,1,1,1;", 14, 3, Checks.NOT_FOUND);
        noFault("-7;+7,1,1,1,1;-7;", 3, 0);
        fault("-7;-7;", 3, 3, Checks.NOT_FOUND);
        fault("-6;", 0, 3, Checks.NOT_FOUND);
        noFault("+6,1,1,1,1;-6;", 2, 1);
        fault("+6,1,1,1,1;-6;-6;", 14, 3, Checks.NOT_FOUND);
        noFault("+30,1,1,1,1;+0,1,1,1,1;-30;-0;", 4, 1);
        fault("-30;", 0, 3, Checks.NOT_FOUND);
        fault("-0;", 0, 3, Checks.NOT_FOUND);
        Checks.sentence("its reason is 1 if it is not of this form, its \";\" included, 2 if a number of a box is above 30, "
                + "or a low one is greater than its high one, and 3 if there is such a box already");
        fault("+7,2,1,1,1;", 0, 2, 1);
        fault("+7,2,1,1,1", 0, 1, 10);
        fault("+7,1,1,1,1", 0, 1, 10);
        fault("+99,2,1,1,1", 0, 1, 11);
        fault("-6", 0, 1, 2);
        fault("-31", 0, 1, 3);
        Checks.sentence("The fault of the text is the position, from 0, of the first character of the first order that is "
                + "not possible");
        fault("-6;x", 0, 3, Checks.NOT_FOUND);
        fault("-31;-6;x", 0, 2, 0);
        fault("-7;-31;x", 3, 2, 0);
        fault("-7;-6;-31;", 3, 3, Checks.NOT_FOUND);
        BoxCourt x = written("-7;");
        x.take(7);
        Checks.due("taken since it was written", x.fault(1), 3);
        x.undo();
        Checks.due("restored", x.fault(1), Checks.NOT_FOUND);
    }

    private static void faultCalls() {
        Checks.sentence("NOT_FOUND if the text has no fault (also if it is empty), for 2 if the reason is 3.");
        BoxCourt x = written("");
        for (int what = 0; what < 3; what++) {
            Checks.due("empty, " + what, x.fault(what), Checks.NOT_FOUND);
        }
        BoxCourt y = written("-7;-7;");
        Checks.due("reason 3, 0", y.fault(0), 3);
        Checks.due("reason 3, 1", y.fault(1), 3);
        Checks.due("reason 3, 2", y.fault(2), Checks.NOT_FOUND);
        Checks.write(y, "-31;");
        Checks.due("reason 2, 2", y.fault(2), 0);
        Checks.write(y, "-7;");
        Checks.due("no fault after a fault, 2", y.fault(2), Checks.NOT_FOUND);
        Checks.write(y, "x");
        Checks.due("a fault", y.fault(1), 1);
        y.clearText();
        for (int what = 0; what < 3; what++) {
            Checks.due("empty after a fault, " + what, y.fault(what), Checks.NOT_FOUND);
        }
        Checks.due("empty after a fault: play", y.play(), 0);
        Checks.sentence("INVALID_ARGUMENT if what is out of range");
        for (int out : new int[] {-1, 3, Checks.MIN, Checks.MAX}) {
            Checks.due("fault(" + out + ")", y.fault(out), Checks.INVALID);
            Checks.due("fault(" + out + ") of an empty text", new BoxCourt().fault(out), Checks.INVALID);
        }
    }

    private static void plays() {
        Checks.sentence("They are one change, also if there are none.");
        BoxCourt x = new BoxCourt();
        Checks.due("no orders", x.play(), 0);
        Checks.due("no orders: states", x.count(8), 1);
        Checks.write(x, "+1,1,1,1,1;");
        Checks.due("one order", x.play(), 1);
        Checks.due("one order: states", x.count(8), 2);
        Checks.write(x, "-1;+1,2,2,2,2;");
        Checks.due("two orders", x.play(), 2);
        Checks.due("two orders: states", x.count(8), 3);
        Checks.due("undo", x.undo(), 2);
        Checks.due("both are undone", x.boxOf(1, 0), 1);
        Checks.sentence("Does all orders of the text, which stays.");
        Checks.due("length", x.count(9), 14);
        Checks.due("again", x.play(), 2);
        Checks.due("again, what it did", x.boxOf(1, 0), 2);
        Checks.sentence("(the box is put)");
        Checks.write(x, "+30,11,22,63,84;");
        Checks.due("play", x.play(), 1);
        Checks.due("low x", x.boxOf(30, 0), 11);
        Checks.due("low y", x.boxOf(30, 1), 22);
        Checks.due("high x", x.boxOf(30, 2), 63);
        Checks.due("high y", x.boxOf(30, 3), 84);
        Checks.sentence("(it is taken out)");
        Checks.write(x, "-30;");
        Checks.due("play", x.play(), 1);
        Checks.due("box", x.boxOf(30, 0), Checks.NOT_FOUND);
        Checks.sentence("NOT_POSSIBLE if it has a fault.");
        Checks.write(x, "-1;+1,3,3,3,3;-");
        Checks.due("the last order is none", x.play(), Checks.NOT_POSSIBLE);
        Checks.due("nothing is done", x.boxOf(1, 0), 2);
        x.type('1');
        x.type(';');
        Checks.due("now it is one", x.play(), 3);
        Checks.due("all is done", x.count(0), 0);
        mostOrders();
    }

    /** 17 orders in 58 characters; with one digit alone there would not be so many boxes. */
    private static void mostOrders() {
        Checks.sentence("Returns how many there are in it");
        BoxCourt x = Checks.alike(18);
        StringBuilder text = new StringBuilder();
        for (int box = 0; box < 17; box++) {
            text.append('-').append(box).append(';');
        }
        Checks.write(x, text.toString());
        Checks.due("length", x.count(9), 58);
        Checks.due("play", x.play(), 17);
        Checks.due("tree", Checks.tree(x), "[17]");
        Checks.due("undo", x.undo(), 3);
        Checks.due("boxes", x.count(0), 18);

        BoxCourt y = new BoxCourt();
        Checks.write(y, "+0,7,7,7,7;+1,7,7,7,7;+2,7,7,7,7;+3,7,7,7,7;+4,7,7,7,07;-02;");
        Checks.due("60 characters", y.count(9), 60);
        Checks.due("60 characters: fault", y.fault(0), Checks.NOT_FOUND);
        Checks.due("60 characters: play", y.play(), 6);
        Checks.due("60 characters: tree", Checks.tree(y), "[[0 1][3 4]]");
        Checks.due("61st", y.type(';'), Checks.LIMIT);
        Checks.due("the last one is out again", y.fault(0), 0);
    }

    public static void main(String[] args) {
        lengths();
        characters();
        form();
        breaksOff();
        writtenAnew();
        wrongNumbers();
        thereOrNot();
        faultCalls();
        plays();
        Checks.end("TextEdgesTest");
    }
}
