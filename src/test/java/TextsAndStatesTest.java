/** Promises 16 to 23: the text, what is told, and states that are restored. */
public final class TextsAndStatesTest {
    private static final Due D = new Due();
    private static final int NONE = -1, BAD = -2, STATE = -3, FULL = -4, FENCED = -6, GAP = -7;

    public static void main(String[] args) {
        type();
        clear();
        faults();
        letters();
        does();
        doesKeepsOneState();
        longestText();
        asked();
        all();
        back();
        backRestoresEverything();
        backAndLogs();
        backAndEndings();
        backLeavesTextAndCounts();
        told();
        digest();
        D.end();
    }

    private static void write(OnceLetters x, String text) {
        x.clear();
        for (int i = 0; i < text.length(); i++) {
            x.type(text.charAt(i));
        }
    }

    private static void type() {
        D.about("promise 16");
        OnceLetters x = new OnceLetters();
        D.due("type(-1)", x.type(-1), BAD);
        D.due("type(128)", x.type(128), BAD);
        D.due("type(max)", x.type(Integer.MAX_VALUE), BAD);
        D.due("told(5)", x.told(5), 0);
        D.due("type(0)", x.type(0), 1);
        for (int i = 2; i <= 120; i++) {
            D.due("type(127)", x.type(127), i);
        }
        D.due("type at 120", x.type(32), FULL);
        D.due("BAD before FULL", x.type(128), BAD);
        D.due("told(5)", x.told(5), 120);
        D.due("told(0)", x.told(0), 4);
        D.due("told(4)", x.told(4), 1);
        D.due("told(6)", x.told(6), 0);
    }

    private static void clear() {
        D.about("promise 17");
        OnceLetters x = new OnceLetters();
        D.due("clear()", x.clear(), 0);
        write(x, "b0;");
        D.due("clear()", x.clear(), 3);
        D.due("told(5)", x.told(5), 0);
        D.due("clear()", x.clear(), 0);
        D.due("does()", x.does(), -10);
        D.due("told(6)", x.told(6), 0);
    }

    private static void fault(String text, int want) {
        OnceLetters x = new OnceLetters();
        write(x, text);
        D.due("does() of '" + text + "'", x.does(), want);
        if (want < 0) {
            D.due("told(6) of '" + text + "'", x.told(6), 0);
            D.due("writer(0, 0) of '" + text + "'", x.writer(0, 0), -1);
            D.due("told(0) of '" + text + "'", x.told(0), 0);
        }
    }

    private static void faults() {
        D.about("promise 18, faults");
        fault("", -10);
        fault("   ", -13);
        fault("b", -11);
        fault("b0", -12);
        fault("b0 ", -13);
        fault("b;", -11);
        fault(" b ;", -13);
        fault(";", -10);
        fault("0", -10);
        fault("x", -10);
        fault("B0;", -10);
        fault("b0;;", -13);
        fault("b0;b", -14);
        fault("b0;x", -13);
        fault("b0;0", -13);
        fault("b00;", 1);
        fault("b000;", -13);
        fault("b0 0;", -13);
        fault("b00 0;", -14);
        fault("bb0;", -11);
        fault("b0b", -12);
        fault("b-1;", -11);
        fault("b/;", -11);
        fault("b:;", -11);
        fault("b\t0;", -11);
        fault("b0;\n", -13);
        fault("b\0000;", -11);
        fault(" b 0 ; ", 1);
        fault("   b   00   ;   b  0;", 2);
        fault("b0;t 1;", 2);
        fault("o0;", -12);
        fault("o00;", -13);
        fault("o000;", -13);
        fault("o0 0 0;", -15);
        fault("o0 000;", -15);
        fault("o0 0", -14);
        fault("s0 0 0 0;", -18);
        fault("s0 0 0 0 0 0;", -21);
        fault("s0 0 0 0 0", -20);
        fault("e0 0;", -14);
        fault("e0 0 0 0;", -17);
        fault("t;", -11);
        fault("t1 1;", -13);
        fault("r0;", -12);
        fault("r0 0 0;", -15);
        fault("c0 0 0;", -16);
        fault("c0 0 0 0 0;", -19);
        fault("l5;", -10);
    }

    private static void letters() {
        D.about("promise 18, orders");
        OnceLetters x = new OnceLetters();
        write(x, "b1;o1 0;s1 0 2 0 77;e1 0 1;t 1;r 1 2;");
        D.due("does()", x.does(), 6);
        D.due("asked()", x.asked(), 77);
        D.due("writer(1, 0)", x.writer(1, 0), 0);
        D.due("part(2, 0)", x.part(2, 0), 2);
        D.due("entry(2, 0, 4)", x.entry(2, 0, 4), 77);
        D.due("entry(2, 0, 3)", x.entry(2, 0, 3), 0);
        D.due("entry(2, 1, 4)", x.entry(2, 1, 4), 1);
        D.due("reader(1, 2, 0)", x.reader(1, 2, 0), 1);
        write(x, "o1 0;c1 0 1 2;");
        D.due("does()", x.does(), 2);
        D.due("asked()", x.asked(), 1);
        D.due("ends(1, 0, 1)", x.ends(1, 0, 1), 0);
        D.due("reader(1, 2, 1)", x.reader(1, 2, 1), 1);
        D.due("reader(0, 2, 1)", x.reader(0, 2, 1), 0);
        write(x, "t12;");
        D.due("does()", x.does(), 1);
        D.due("all(0)", x.all(0), 13);
        write(x, "b1;b1;o1 2;c 1 2 0 1;e 01 02 0;o1 1;");
        D.due("does()", x.does(), 5);
        D.due("asked()", x.asked(), FENCED);
        write(x, "s 1 2 1 0 63;s1 02 01 1 9;s1 2 1 3 9;");
        D.due("does()", x.does(), 2);
        D.due("asked()", x.asked(), GAP);
        D.due("entry(1, 0, 4)", x.entry(1, 0, 4), 63);
        D.due("entry(1, 1, 3)", x.entry(1, 1, 3), 1);
    }

    private static void does() {
        D.about("promise 18");
        OnceLetters y = new OnceLetters();
        write(y, "b2;b2;o2 1;");
        D.due("does()", y.does(), 3);
        D.due("asked()", y.asked(), 1);
        OnceLetters x = new OnceLetters();
        write(x, "b0;b9;t99;s0 0 0 0 5;s0 0 0 0 6;s0 0 0 7 7;b0;o0 0;e0 1 1;r0 1;");
        D.due("does()", x.does(), 4);
        D.due("asked()", x.asked(), NONE);
        D.due("BAD of orders", x.told(0), 2);
        D.due("FENCED of orders", x.told(1), 1);
        D.due("STATE of orders", x.told(2), 1);
        D.due("GAP of orders", x.told(3), 1);
        D.due("FULL of orders", x.told(4), 0);
        D.due("told(6)", x.told(6), 1);
        D.due("the text stays", x.told(5), 63);
        D.due("does() again", x.does(), 2);
        D.due("writer(0, 0)", x.writer(0, 0), 3);
        D.due("told(6)", x.told(6), 2);
        write(x, "b7;");
        D.due("does() of errors alone", x.does(), 0);
        D.due("asked()", x.asked(), BAD);
        D.due("told(6) of errors alone", x.told(6), 3);
    }

    private static void doesKeepsOneState() {
        D.about("promise 18, one state");
        OnceLetters x = new OnceLetters();
        x.begins(3);
        write(x, "b0;b1;b2;b0;b1;b2;b0;b1;b2;t1;");
        D.due("does()", x.does(), 10);
        D.due("told(6)", x.told(6), 2);
        D.due("back()", x.back(), 1);
        D.due("writer(0, 0)", x.writer(0, 0), -1);
        D.due("writer(2, 0)", x.writer(2, 0), -1);
        D.due("all(0)", x.all(0), 0);
        D.due("writer(3, 0)", x.writer(3, 0), 0);
        D.due("begins(0) leaves a state again", x.begins(0), 0);
        D.due("told(6)", x.told(6), 2);
    }

    private static void longestText() {
        D.about("promise 18, longest text");
        OnceLetters x = new OnceLetters();
        for (int i = 0; i < 40; i++) {
            x.type('b');
            x.type('0');
            x.type(';');
        }
        D.due("told(5)", x.told(5), 120);
        D.due("does()", x.does(), 40);
        D.due("writer(0, 0)", x.writer(0, 0), 39);
        D.due("does()", x.does(), 40);
        D.due("does() up to 99", x.does(), 20);
        D.due("told(4)", x.told(4), 20);
        D.due("asked()", x.asked(), FULL);
        x.clear();
        for (int i = 0; i < 12; i++) {
            write12(x);
        }
        D.due("does() of sends", x.does(), 0);
        x.clear();
        for (int i = 0; i < 120; i++) {
            x.type(i == 119 ? 'b' : ' ');
        }
        D.due("ends within an order", x.does(), -130);
    }

    private static void write12(OnceLetters x) {
        String order = "s9 9 9 9 9;";
        if (x.told(5) + order.length() <= 120) {
            for (int i = 0; i < order.length(); i++) {
                x.type(order.charAt(i));
            }
        }
    }

    private static void asked() {
        D.about("promise 19");
        OnceLetters x = new OnceLetters();
        D.due("asked()", x.asked(), 0);
        x.does();
        D.due("asked() behind a fault", x.asked(), 0);
        write(x, "b2;b2;");
        x.does();
        D.due("asked()", x.asked(), 1);
        write(x, "b2;b");
        x.does();
        D.due("asked() behind a fault", x.asked(), 1);
        x.back();
        D.due("asked() behind back()", x.asked(), 1);
        x.begins(7);
        D.due("asked() behind another call", x.asked(), 1);
        write(x, "b5;");
        x.does();
        int bad = x.told(0);
        D.due("asked()", x.asked(), BAD);
        D.due("is not counted", x.told(0), bad);
    }

    private static void all() {
        D.about("promise 20");
        OnceLetters x = new OnceLetters();
        D.due("all(-1)", x.all(-1), BAD);
        D.due("all(8)", x.all(8), BAD);
        D.due("told(0)", x.told(0), 2);
        for (int w = 0; w < 4; w++) {
            x.begins(w);
            x.opens(w, 0);
        }
        x.limit(9);
        x.sends(0, 0, 0, 0, 1);
        x.sends(0, 0, 1, 0, 1);
        x.sends(0, 0, 2, 0, 1);
        x.sends(1, 0, 2, 0, 1);
        x.ends(0, 0, 1);
        x.ends(3, 0, 1);
        x.ends(1, 0, 0);
        x.ticks(1);
        int[] row = {1, 9, 1, 1, 6, 2, 1, 2};
        for (int what = 0; what < 8; what++) {
            D.due("all(" + what + ")", x.all(what), row[what]);
        }
    }

    private static void back() {
        D.about("promise 21");
        OnceLetters x = new OnceLetters();
        D.due("back()", x.back(), STATE);
        D.due("told(2)", x.told(2), 1);
        for (int i = 0; i < 9; i++) {
            x.limit(i + 1);
            D.due("told(6)", x.told(6), Math.min(i + 1, 6));
        }
        for (int i = 0; i < 6; i++) {
            D.due("back()", x.back(), 5 - i);
            D.due("all(1)", x.all(1), 8 - i);
        }
        D.due("back()", x.back(), STATE);
        D.due("all(1)", x.all(1), 3);
        x.limit(7);
        x.limit(8);
        D.due("back()", x.back(), 1);
        D.due("all(1)", x.all(1), 7);
        x.limit(10);
        D.due("back()", x.back(), 1);
        D.due("back()", x.back(), 0);
        D.due("all(1)", x.all(1), 3);
    }

    private static void backRestoresEverything() {
        D.about("promise 21, every call");
        OnceLetters x = new OnceLetters();
        write(x, "b0;b1;b2;o0 0;o1 0;s0 0 0 0 5;s2 0 1 0 6;s0 0 1 0 7;r1 1;");
        x.does();
        long before = x.digest();
        x.back();
        x.does();
        D.due("digest() behind does() again", x.digest(), before);
        int[][] calls = {{0, 3}, {0, 0}, {1}, {2}, {3}, {4}, {5}, {6}, {7}, {8}, {9}};
        for (int[] call : calls) {
            OnceLetters y = new OnceLetters();
            write(y, "b0;b1;b2;o0 0;o1 0;s0 0 0 0 5;s2 0 1 0 6;s0 0 1 0 7;r1 1;");
            y.does();
            int states = y.told(6);
            D.due("digest()", y.digest(), before);
            D.holds("call " + call[0] + " succeeds", change(y, call) >= 0);
            D.due("told(6) behind call " + call[0], y.told(6), states + 1);
            D.due("back() of call " + call[0], y.back(), states);
            D.due("digest() behind back() of call " + call[0], y.digest(), before);
        }
    }

    private static int change(OnceLetters y, int[] call) {
        switch (call[0]) {
            case 0:
                return y.begins(call[1]);
            case 1:
                return y.opens(2, 0);
            case 2:
                return y.sends(0, 0, 2, 0, 9);
            case 3:
                return y.ends(1, 0, 1);
            case 4:
                return y.carries(0, 0, 1, 1);
            case 5:
                return y.ticks(20);
            case 6:
                return y.limit(5);
            case 7:
                return y.reads(0, 1);
            case 8:
                return y.rewinds(0);
            default:
                return doesAnother(y);
        }
    }

    /** Another text of the same length, as the length goes into the digest. */
    private static int doesAnother(OnceLetters y) {
        int length = y.clear();
        String text = "t20;b3;";
        for (int i = 0; i < length; i++) {
            y.type(i < text.length() ? text.charAt(i) : ' ');
        }
        return y.does();
    }

    private static void backAndLogs() {
        D.about("promise 21, logs");
        OnceLetters x = new OnceLetters();
        x.begins(0);
        x.opens(0, 0);
        x.sends(0, 0, 0, 0, 5);
        x.ends(0, 0, 1);
        x.ticks(1);
        D.due("committed", x.entry(0, 0, 5), 2);
        D.due("back()", x.back(), 4);
        D.due("undecided again", x.entry(0, 0, 5), 1);
        D.due("back()", x.back(), 3);
        D.due("ends(0, 0, 0)", x.ends(0, 0, 0), 1);
        x.ticks(1);
        D.due("aborted now", x.entry(0, 0, 5), 3);
        x.back();
        x.back();
        D.due("back() to no message", x.back(), 2);
        D.due("part(0, 0)", x.part(0, 0), 0);
        D.due("writer(0, 2)", x.writer(0, 2), 0);
        D.due("writer(0, 6)", x.writer(0, 6), 0);
        D.due("back() to no deed", x.back(), 1);
        D.due("a plain one in its place", x.sends(0, 0, 0, 0, 8), 0);
        D.due("entry(0, 0, 5)", x.entry(0, 0, 5), 0);
        D.due("reads(0, 0)", x.reads(0, 0), 8);
    }

    private static void backAndEndings() {
        D.about("promise 21, endings");
        OnceLetters x = new OnceLetters();
        write(x, "b0;b1;b3;s3 0 0 0 5;s3 0 0 1 6;r1 0;t3;o0 0;c0 0 1 0;s0 0 1 0 7;");
        D.due("does()", x.does(), 10);
        x.ends(0, 0, 0);
        D.due("back()", x.back(), 1);
        x.ends(0, 0, 1);
        x.ticks(2);
        D.due("saved", x.reader(1, 0, 1), 1);
        D.due("back()", x.back(), 2);
        D.due("not saved again", x.reader(1, 0, 1), 0);
        D.due("ending by commit again", x.writer(0, 4), 1);
        x.ticks(2);
        D.due("saved again", x.reader(1, 0, 1), 1);
        x.ticks(3);
        x.opens(0, 0);
        D.due("writer(0, 5)", x.writer(0, 5), 0);
        x.back();
        x.back();
        x.opens(0, 0);
        x.ticks(1);
        x.ends(0, 0, 1);
        x.ticks(2);
        x.opens(0, 0);
        x.back();
        x.back();
        x.back();
        D.due("opened when it was", x.writer(0, 5), 1);
        x.reads(1, 0);
        x.carries(0, 0, 1, 0);
        x.back();
        D.due("ends(0, 0, 1)", x.ends(0, 0, 1), 0);
        D.due("carries no longer", x.reader(1, 0, 1), 1);
    }

    private static void backLeavesTextAndCounts() {
        D.about("promise 21, what stays");
        OnceLetters x = new OnceLetters();
        x.begins(0);
        write(x, "b1;b9;");
        x.does();
        x.begins(4);
        D.due("back()", x.back(), 1);
        D.due("asked()", x.asked(), BAD);
        D.due("told(0)", x.told(0), 2);
        D.due("told(5)", x.told(5), 6);
        D.due("writer(1, 0)", x.writer(1, 0), -1);
        D.due("does() again", x.does(), 1);
        D.due("writer(1, 0)", x.writer(1, 0), 0);
        D.due("told(0)", x.told(0), 3);
    }

    private static void told() {
        D.about("promise 22");
        OnceLetters x = new OnceLetters();
        D.due("told(-1)", x.told(-1), BAD);
        D.due("told(7)", x.told(7), BAD);
        D.due("told(0)", x.told(0), 2);
        x.begins(0);
        x.begins(0);
        x.opens(0, 0);
        D.due("told(1)", x.told(1), 1);
        x.ends(0, 1, 1);
        x.opens(0, 1);
        x.opens(0, 1);
        D.due("told(2)", x.told(2), 2);
        x.sends(0, 1, 0, 5, 5);
        x.sends(0, 1, 0, 6, 5);
        x.sends(0, 1, 0, 7, 5);
        D.due("told(3)", x.told(3), 3);
        for (int i = 0; i < 124; i++) {
            x.type(32);
        }
        D.due("told(4)", x.told(4), 4);
        D.due("told(5)", x.told(5), 120);
        D.due("told(6)", x.told(6), 3);
        D.due("does()", x.does(), -130);
        x.reads(0, 0);
        x.aborted(0, 0, 0);
        x.writer(0, 5);
        D.due("told(0)", x.told(0), 2);
        D.due("told(1)", x.told(1), 1);
        D.due("told(2)", x.told(2), 2);
        D.due("told(3)", x.told(3), 3);
        D.due("told(4)", x.told(4), 4);
    }

    private static void digest() {
        D.about("promise 23");
        OnceLetters x = new OnceLetters();
        D.due("digest() of a new object", x.digest(), byHand(x));
        write(x, "b0;b1;o0 0;o1 0;s0 0 0 0 5;s1 0 0 0 6;s1 0 2 0 7;e1 0 0;t1;b9;o0 9;");
        x.does();
        x.reads(0, 0);
        long first = x.digest();
        D.due("digest()", first, byHand(x));
        D.due("digest() changes nothing", x.digest(), first);
        x.ticks(9);
        x.reads(1, 0);
        D.due("digest()", x.digest(), byHand(x));
        D.holds("another one", x.digest() != first);
    }

    private static long byHand(OnceLetters x) {
        long h = 2297;
        for (int i = 0; i < 7; i++) {
            h = 31 * h + x.told(i);
        }
        for (int i = 0; i < 8; i++) {
            h = 31 * h + x.all(i);
        }
        for (int i = 0; i < 36; i++) {
            h = 31 * h + x.writer(i / 9, i % 9);
        }
        for (int p = 0; p < 3; p++) {
            for (int i = 0; i < 6; i++) {
                h = 31 * h + x.part(p, i);
            }
            for (int i = 0; i < 7 * x.part(p, 0); i++) {
                h = 31 * h + x.entry(p, i / 7, i % 7);
            }
            for (int i = 0; i < 3 * x.part(p, 5); i++) {
                h = 31 * h + x.aborted(p, i / 3, i % 3);
            }
        }
        for (int i = 0; i < 24; i++) {
            h = 31 * h + x.reader(i / 12, i / 4 % 3, i % 4);
        }
        return h;
    }
}
