/** Promises 10 to 15: what stands in the logs, and what consumers see of it. */
public final class LogsAndReadersTest {
    private static final Due D = new Due();
    private static final int NONE = -1, BAD = -2;

    public static void main(String[] args) {
        entry();
        part();
        stablePosition();
        stableOfMany();
        fullLog();
        aborted();
        abortedOrder();
        reads();
        readsPastHidden();
        rewinds();
        reader();
        D.end();
    }

    /** Partition 1: plain of 0; messages of 1 (committed), 2 (aborted), 3 (open), 3 markers less the open one. */
    private static OnceLetters mixed() {
        OnceLetters x = new OnceLetters();
        for (int w = 0; w < 4; w++) {
            x.begins(w);
        }
        x.begins(2);
        x.sends(0, 0, 1, 0, 40);
        x.opens(1, 0);
        x.opens(2, 1);
        x.sends(1, 0, 1, 0, 41);
        x.sends(2, 1, 1, 0, 42);
        x.sends(0, 0, 1, 1, 50);
        x.ends(1, 0, 1);
        x.ends(2, 1, 0);
        x.opens(3, 0);
        x.sends(3, 0, 1, 0, 43);
        x.ticks(1);
        x.sends(0, 0, 1, 2, 60);
        return x;
    }

    private static void entry() {
        D.about("promise 10");
        OnceLetters x = mixed();
        int[][] rows = {
            {0, 0, 0, 0, 40, 0, 1},
            {0, 1, 0, 0, 41, 2, 1},
            {0, 2, 1, 0, 42, 3, 0},
            {0, 0, 0, 1, 50, 0, 1},
            {0, 3, 0, 0, 43, 1, 0},
            {1, 1, 0, NONE, 1, NONE, 0},
            {1, 2, 1, NONE, 0, NONE, 0},
            {0, 0, 0, 2, 60, 0, 0},
        };
        for (int place = 0; place < rows.length; place++) {
            for (int what = 0; what < 7; what++) {
                D.due("entry(1, " + place + ", " + what + ")", x.entry(1, place, what), rows[place][what]);
            }
        }
        D.due("entry(-1, 0, 0)", x.entry(-1, 0, 0), BAD);
        D.due("entry(3, 0, 0)", x.entry(3, 0, 0), BAD);
        D.due("entry(1, -1, 0)", x.entry(1, -1, 0), BAD);
        D.due("entry(1, 8, 0)", x.entry(1, 8, 0), BAD);
        D.due("entry(1, max, 0)", x.entry(1, Integer.MAX_VALUE, 0), BAD);
        D.due("entry(0, 0, 0)", x.entry(0, 0, 0), BAD);
        D.due("entry(1, 0, -1)", x.entry(1, 0, -1), BAD);
        D.due("entry(1, 0, 7)", x.entry(1, 0, 7), BAD);
        D.due("told(0)", x.told(0), 8);
        x.ends(3, 0, 1);
        x.ticks(1);
        D.due("entry(1, 4, 6)", x.entry(1, 4, 6), 1);
        D.due("entry(1, 7, 6)", x.entry(1, 7, 6), 1);
        D.due("back()", x.back(), 5);
        D.due("entry(1, 4, 5) has no marker again", x.entry(1, 4, 5), 1);
        D.due("entry(1, 8, 0) is gone", x.entry(1, 8, 0), BAD);
    }

    private static void part() {
        D.about("promise 11");
        OnceLetters x = mixed();
        int[] row = {8, 4, 3, 1, 3, 1};
        int[] empty = {0, 0, 0, 1, NONE, 0};
        for (int what = 0; what < 6; what++) {
            D.due("part(1, " + what + ")", x.part(1, what), row[what]);
            D.due("part(0, " + what + ")", x.part(0, what), empty[what]);
        }
        D.due("part(-1, 0)", x.part(-1, 0), BAD);
        D.due("part(3, 0)", x.part(3, 0), BAD);
        D.due("part(0, -1)", x.part(0, -1), BAD);
        D.due("part(0, 6)", x.part(0, 6), BAD);
        D.due("told(0)", x.told(0), 4);
        x.ends(3, 0, 0);
        D.due("ending still holds", x.part(1, 1), 4);
        D.due("ending still holds", x.part(1, 4), 3);
        x.ticks(1);
        D.due("part(1, 1)", x.part(1, 1), 9);
        D.due("part(1, 2)", x.part(1, 2), 4);
        D.due("part(1, 4)", x.part(1, 4), NONE);
        D.due("part(1, 5)", x.part(1, 5), 2);
    }

    private static void stablePosition() {
        D.about("promise 11, stable position");
        OnceLetters x = new OnceLetters();
        x.begins(0);
        x.begins(1);
        x.opens(0, 0);
        x.opens(1, 0);
        D.due("an open one without messages holds nothing", x.part(2, 4), NONE);
        x.sends(1, 0, 2, 0, 1);
        x.sends(0, 0, 2, 0, 2);
        x.sends(0, 0, 1, 0, 3);
        x.sends(1, 0, 2, 1, 4);
        D.due("part(2, 1)", x.part(2, 1), 0);
        D.due("part(2, 4)", x.part(2, 4), 1);
        x.ends(0, 0, 1);
        x.ends(1, 0, 1);
        x.ticks(1);
        D.due("1 has a marker, 0 not yet", x.part(2, 1), 1);
        D.due("1 has a marker, 0 not yet", x.part(2, 4), 0);
        D.due("0 has a marker in 1, though it is not finished", x.part(1, 1), 2);
        D.due("its message there is visible", x.entry(1, 0, 6), 1);
        D.due("part(2, 2)", x.part(2, 2), 1);
        D.due("committed, but not below the stable position", x.entry(2, 2, 6), 0);
        x.ticks(1);
        D.due("part(2, 1)", x.part(2, 1), 5);
        D.due("part(2, 2)", x.part(2, 2), 3);
    }

    private static void stableOfMany() {
        D.about("promise 11, many transactions");
        OnceLetters x = new OnceLetters();
        int[] order = {1, 0, 3, 2};
        for (int w : order) {
            x.begins(w);
            x.opens(w, 0);
        }
        for (int w : order) {
            x.sends(w, 0, 0, 0, w);
        }
        for (int w = 0; w < 4; w++) {
            x.sends(w, 0, 2, 0, w);
        }
        for (int i = 0; i < 4; i++) {
            D.due("part(0, 1)", x.part(0, 1), i);
            D.due("part(0, 4)", x.part(0, 4), order[i]);
            D.due("part(0, 3)", x.part(0, 3), 4 - i);
            D.due("part(2, 4)", x.part(2, 4), i == 3 ? 2 : 0);
            x.ends(order[i], 0, 1);
            D.due("part(0, 3) of an ending one", x.part(0, 3), 4 - i);
            D.due("part(1, 3) of an ending one", x.part(1, 3), 3 - i);
            x.ticks(1);
        }
        D.due("part(0, 4)", x.part(0, 4), NONE);
        D.due("part(0, 1)", x.part(0, 1), 8);
    }

    private static void fullLog() {
        D.about("promises 10 to 15, a full log");
        OnceLetters x = new OnceLetters();
        x.begins(0);
        x.opens(0, 0);
        for (int n = 0; n < 47; n++) {
            D.due("sends", x.sends(0, 0, 0, n, n), n);
        }
        D.due("no room", x.sends(0, 0, 0, 47, 0), -4);
        x.ends(0, 0, 1);
        x.ticks(1);
        D.due("part(0, 0)", x.part(0, 0), 48);
        D.due("part(0, 1)", x.part(0, 1), 48);
        D.due("part(0, 2)", x.part(0, 2), 47);
        for (int n = 0; n < 47; n++) {
            D.due("reads", x.reads(1, 0), n);
        }
        D.due("reads at the end", x.reads(1, 0), NONE);
        D.due("reader(1, 0, 0)", x.reader(1, 0, 0), 47);
        D.due("reader(1, 0, 2)", x.reader(1, 0, 2), 0);
        D.due("reader(1, 0, 3)", x.reader(1, 0, 3), NONE);
        D.due("aborted(0, 0, 0)", x.aborted(0, 0, 0), NONE);
        D.due("entry(0, 48, 6)", x.entry(0, 48, 6), BAD);
        D.due("writer(0, 6)", x.writer(0, 6), 47);
        x.begins(0);
        D.due("no room for 0", x.sends(0, 1, 0, 0, 1), -4);
        x.opens(0, 1);
        D.due("part(0, 3)", x.part(0, 3), 1);
        D.due("no room for 0", x.sends(0, 1, 0, 0, 1), -4);
        D.due("ends", x.ends(0, 1, 1), 0);
        D.due("back() with a full log", x.back(), 5);
        D.due("part(0, 0)", x.part(0, 0), 48);
    }

    private static void aborted() {
        D.about("promise 12");
        OnceLetters x = mixed();
        D.due("aborted(1, 0, 0)", x.aborted(1, 0, 0), 2);
        D.due("aborted(1, 0, 1)", x.aborted(1, 0, 1), 2);
        D.due("aborted(1, 0, 2)", x.aborted(1, 0, 2), 6);
        D.due("aborted(1, 1, 0)", x.aborted(1, 1, 0), NONE);
        D.due("aborted(1, max, 0)", x.aborted(1, Integer.MAX_VALUE, 0), NONE);
        D.due("aborted(0, 0, 0)", x.aborted(0, 0, 0), NONE);
        D.due("told(0)", x.told(0), 0);
        D.due("aborted(-1, 0, 0)", x.aborted(-1, 0, 0), BAD);
        D.due("aborted(3, 0, 0)", x.aborted(3, 0, 0), BAD);
        D.due("aborted(1, -1, 0)", x.aborted(1, -1, 0), BAD);
        D.due("aborted(1, 0, -1)", x.aborted(1, 0, -1), BAD);
        D.due("aborted(1, 9, 3)", x.aborted(1, 9, 3), BAD);
        D.due("told(0)", x.told(0), 5);
    }

    private static void abortedOrder() {
        D.about("promise 12, order");
        OnceLetters x = new OnceLetters();
        for (int w = 0; w < 3; w++) {
            x.begins(w);
            x.opens(w, 0);
        }
        x.sends(2, 0, 0, 0, 1);
        x.sends(0, 0, 0, 0, 2);
        x.sends(1, 0, 0, 0, 3);
        x.sends(0, 0, 0, 1, 4);
        x.ends(1, 0, 0);
        x.ticks(1);
        x.ends(0, 0, 0);
        x.ends(2, 0, 0);
        x.ticks(1);
        int[][] rows = {{2, 0, 6}, {0, 1, 5}, {1, 2, 4}};
        for (int k = 0; k < 3; k++) {
            for (int what = 0; what < 3; what++) {
                D.due("aborted(0, " + k + ", " + what + ")", x.aborted(0, k, what), rows[k][what]);
            }
        }
        D.due("aborted(0, 3, 0)", x.aborted(0, 3, 0), NONE);
        D.due("part(0, 5)", x.part(0, 5), 3);
        x.back();
        D.due("behind back()", x.aborted(0, 0, 0), 1);
        D.due("behind back()", x.aborted(0, 1, 0), NONE);
    }

    private static void reads() {
        D.about("promise 13");
        OnceLetters x = mixed();
        D.due("reads(-1, 0)", x.reads(-1, 0), BAD);
        D.due("reads(2, 0)", x.reads(2, 0), BAD);
        D.due("reads(0, -1)", x.reads(0, -1), BAD);
        D.due("reads(0, 3)", x.reads(0, 3), BAD);
        D.due("told(0)", x.told(0), 4);
        for (int i = 0; i < 6; i++) {
            x.back();
        }
        int states = x.told(6);
        D.due("told(6)", states, 0);
        D.due("reads of an empty log", x.reads(0, 0), NONE);
        D.due("told(6)", x.told(6), 0);
        D.due("told(0)", x.told(0), 4);
    }

    private static void readsPastHidden() {
        D.about("promise 13, hidden messages");
        OnceLetters x = mixed();
        D.due("reads(1, 1)", x.reads(1, 1), 40);
        D.due("reader(1, 1, 0)", x.reader(1, 1, 0), 1);
        D.due("the other consumer stays", x.reader(0, 1, 0), 0);
        D.due("reads(1, 1)", x.reads(1, 1), 41);
        D.due("past the aborted one", x.reads(1, 1), 50);
        D.due("reader(1, 1, 0)", x.reader(1, 1, 0), 4);
        D.due("not above the stable position", x.reads(1, 1), NONE);
        D.due("reader(1, 1, 0)", x.reader(1, 1, 0), 4);
        x.ends(3, 0, 0);
        x.ticks(1);
        D.due("past the open one when it is aborted", x.reads(1, 1), 60);
        D.due("reader(1, 1, 0)", x.reader(1, 1, 0), 8);
        D.due("the marker is no message", x.reads(1, 1), NONE);
        D.due("back()", x.back(), 5);
        D.due("reader(1, 1, 0)", x.reader(1, 1, 0), 4);
        D.due("again", x.reads(1, 1), 60);
    }

    private static void rewinds() {
        D.about("promise 14");
        OnceLetters x = mixed();
        D.due("rewinds(-1)", x.rewinds(-1), BAD);
        D.due("rewinds(2)", x.rewinds(2), BAD);
        D.due("told(0)", x.told(0), 2);
        x.sends(0, 0, 0, 0, 1);
        x.sends(0, 0, 2, 0, 2);
        x.reads(0, 0);
        x.reads(0, 1);
        x.carries(3, 0, 0, 1);
        x.reads(0, 1);
        x.reads(0, 2);
        x.reads(1, 2);
        D.due("rewinds(0)", x.rewinds(0), 3);
        D.due("reader(0, 1, 0)", x.reader(0, 1, 0), 0);
        D.due("the other consumer stays", x.reader(1, 2, 0), 1);
        D.due("rewinds(0) again", x.rewinds(0), 0);
        x.ends(3, 0, 1);
        x.ticks(1);
        D.due("told(6)", x.told(6), 6);
        D.due("forward to the saved position", x.rewinds(0), 1);
        D.due("reader(0, 1, 0)", x.reader(0, 1, 0), 1);
        D.due("reader(0, 1, 1)", x.reader(0, 1, 1), 1);
        D.due("back()", x.back(), 5);
        D.due("reader(0, 1, 0)", x.reader(0, 1, 0), 0);
        D.due("rewinds(1)", x.rewinds(1), 1);
    }

    private static void reader() {
        D.about("promise 15");
        OnceLetters x = mixed();
        D.due("reader(-1, 0, 0)", x.reader(-1, 0, 0), BAD);
        D.due("reader(2, 0, 0)", x.reader(2, 0, 0), BAD);
        D.due("reader(0, -1, 0)", x.reader(0, -1, 0), BAD);
        D.due("reader(0, 3, 0)", x.reader(0, 3, 0), BAD);
        D.due("reader(0, 0, -1)", x.reader(0, 0, -1), BAD);
        D.due("reader(0, 0, 4)", x.reader(0, 0, 4), BAD);
        D.due("told(0)", x.told(0), 6);
        int[][] rows = {{0, 0, 3, 0}, {1, 0, 2, 1}, {2, 0, 1, 3}, {4, 0, 0, NONE}};
        for (int i = 0; i < rows.length; i++) {
            for (int what = 0; what < 4; what++) {
                D.due("reader(0, 1, " + what + ")", x.reader(0, 1, what), rows[i][what]);
            }
            x.reads(0, 1);
        }
        D.due("reader(1, 1, 2)", x.reader(1, 1, 2), 3);
    }
}
