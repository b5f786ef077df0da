/** Promises 1 to 9: a new object, and what producers do. */
public final class WritersTest {
    private static final Due D = new Due();
    private static final int NONE = -1, BAD = -2, STATE = -3, FULL = -4, FENCED = -6, GAP = -7;

    public static void main(String[] args) {
        newObject();
        begins();
        beginsAbortsOpen();
        beginsUpTo99();
        opens();
        opensFresh();
        sends();
        sendsErrorOrder();
        sendsRecent();
        sendsRecentAcrossMarkersAndEpochs();
        sendsRoom();
        sendsReserveOfEnding();
        ends();
        carries();
        carriesOfTwoDeeds();
        ticks();
        ticksMarkerOrder();
        ticksHanging();
        hangingBeyond99();
        limit();
        writer();
        D.end();
    }

    private static OnceLetters begun() {
        OnceLetters x = new OnceLetters();
        for (int w = 0; w < 4; w++) {
            x.begins(w);
        }
        return x;
    }

    private static void newObject() {
        D.about("promise 1");
        OnceLetters x = new OnceLetters();
        int[] writer = {-1, 0, 0, 0, 0, -1, 0, 0, 0};
        for (int w = 0; w < 4; w++) {
            for (int what = 0; what < 9; what++) {
                D.due("writer(" + w + ", " + what + ")", x.writer(w, what), writer[what]);
            }
        }
        int[] part = {0, 0, 0, 0, -1, 0};
        int[] reader = {0, 0, 0, -1};
        for (int p = 0; p < 3; p++) {
            for (int what = 0; what < 6; what++) {
                D.due("part(" + p + ", " + what + ")", x.part(p, what), part[what]);
            }
            for (int what = 0; what < 4; what++) {
                D.due("reader(0, " + p + ", " + what + ")", x.reader(0, p, what), reader[what]);
                D.due("reader(1, " + p + ", " + what + ")", x.reader(1, p, what), reader[what]);
            }
        }
        for (int what = 0; what < 8; what++) {
            D.due("all(" + what + ")", x.all(what), what == 1 ? 5 : 0);
        }
        for (int what = 0; what < 7; what++) {
            D.due("told(" + what + ")", x.told(what), 0);
        }
        D.due("asked()", x.asked(), 0);
        D.due("clear()", x.clear(), 0);
        D.due("back()", x.back(), STATE);
    }

    private static void begins() {
        D.about("promise 2");
        OnceLetters x = new OnceLetters();
        D.due("begins(-1)", x.begins(-1), BAD);
        D.due("begins(4)", x.begins(4), BAD);
        D.due("begins(min)", x.begins(Integer.MIN_VALUE), BAD);
        D.due("begins(3)", x.begins(3), 0);
        D.due("begins(3)", x.begins(3), 1);
        D.due("begins(0)", x.begins(0), 0);
        D.due("told(0)", x.told(0), 3);
        D.due("told(6)", x.told(6), 3);
        D.due("writer(3, 0)", x.writer(3, 0), 1);
        D.due("writer(1, 0)", x.writer(1, 0), -1);
    }

    private static void beginsAbortsOpen() {
        D.about("promise 2, open");
        OnceLetters x = begun();
        x.opens(1, 0);
        x.sends(1, 0, 2, 0, 8);
        D.due("begins(1)", x.begins(1), 1);
        D.due("writer(1, 1)", x.writer(1, 1), 2);
        D.due("writer(1, 4)", x.writer(1, 4), 0);
        D.due("begins(1) while ending", x.begins(1), STATE);
        D.due("ticks(1)", x.ticks(1), 1);
        D.due("entry(2, 1, 2)", x.entry(2, 1, 2), 1);
        D.due("entry(2, 0, 2)", x.entry(2, 0, 2), 0);
        D.due("entry(2, 0, 5)", x.entry(2, 0, 5), 3);
        D.due("begins(1) when idle", x.begins(1), 2);
        x.opens(1, 2);
        D.due("begins(1) of an empty deed", x.begins(1), 3);
        D.due("writer(1, 1)", x.writer(1, 1), 0);
    }

    private static void beginsUpTo99() {
        D.about("promise 2, full");
        OnceLetters x = new OnceLetters();
        for (int age = 0; age < 100; age++) {
            D.due("begins(0)", x.begins(0), age);
        }
        D.due("begins(0) at 99", x.begins(0), FULL);
        D.due("told(4)", x.told(4), 1);
        D.due("writer(0, 0)", x.writer(0, 0), 99);
        D.due("opens(0, 99)", x.opens(0, 99), 1);
        D.due("begins(0) at 99, open", x.begins(0), FULL);
        D.due("writer(0, 1)", x.writer(0, 1), 1);
        D.due("sends", x.sends(0, 99, 0, 0, 1), 0);
        D.due("ends(0, 99, 1)", x.ends(0, 99, 1), 1);
        D.due("begins(0) at 99, ending", x.begins(0), STATE);
    }

    private static void opens() {
        D.about("promise 3");
        OnceLetters x = new OnceLetters();
        D.due("opens(0, 0) with epoch -1", x.opens(0, 0), BAD);
        D.due("opens(0, -1) with epoch -1", x.opens(0, -1), BAD);
        x.begins(0);
        x.begins(0);
        x.begins(1);
        D.due("opens(-1, 0)", x.opens(-1, 0), BAD);
        D.due("opens(4, 0)", x.opens(4, 0), BAD);
        D.due("opens(0, 2)", x.opens(0, 2), BAD);
        D.due("opens(0, -1)", x.opens(0, -1), BAD);
        D.due("opens(0, 0)", x.opens(0, 0), FENCED);
        D.due("opens(0, 1)", x.opens(0, 1), 1);
        D.due("opens(0, 0) when open", x.opens(0, 0), FENCED);
        D.due("opens(0, 1) when open", x.opens(0, 1), STATE);
        D.due("opens(1, 0)", x.opens(1, 0), 2);
        x.sends(0, 1, 0, 0, 0);
        x.ends(0, 1, 0);
        D.due("opens(0, 1) when ending", x.opens(0, 1), STATE);
        D.due("told(0)", x.told(0), 6);
        D.due("told(1)", x.told(1), 2);
        D.due("told(2)", x.told(2), 2);
        x.ticks(1);
        D.due("opens(0, 1) when idle again", x.opens(0, 1), 2);
    }

    private static void opensFresh() {
        D.about("promise 3, nothing of the deed before");
        OnceLetters x = begun();
        x.sends(1, 0, 0, 0, 1);
        x.reads(0, 0);
        x.opens(0, 0);
        x.carries(0, 0, 0, 0);
        x.sends(0, 0, 1, 0, 2);
        x.ends(0, 0, 0);
        x.ticks(1);
        D.due("opens(0, 0)", x.opens(0, 0), 1);
        D.due("writer(0, 2)", x.writer(0, 2), 0);
        D.due("writer(0, 5)", x.writer(0, 5), 0);
        D.due("ends(0, 0, 1)", x.ends(0, 0, 1), 0);
        D.due("reader(0, 0, 1) is not what the aborted one carried", x.reader(0, 0, 1), 0);
    }

    private static void sends() {
        D.about("promise 4");
        OnceLetters x = begun();
        D.due("sends(0, 0, 0, 0, 99)", x.sends(0, 0, 0, 0, 99), 0);
        D.due("writer(0, 2) of a plain one", x.writer(0, 2), 0);
        D.due("entry(0, 0, 5)", x.entry(0, 0, 5), 0);
        D.due("sends(1, 0, 0, 0, 0)", x.sends(1, 0, 0, 0, 0), 1);
        D.due("sends(0, 0, 2, 0, 5)", x.sends(0, 0, 2, 0, 5), 0);
        x.opens(0, 0);
        D.due("sends(0, 0, 0, 1, 6)", x.sends(0, 0, 0, 1, 6), 2);
        D.due("writer(0, 2)", x.writer(0, 2), 1);
        D.due("sends(0, 0, 2, 1, 7)", x.sends(0, 0, 2, 1, 7), 1);
        D.due("writer(0, 2)", x.writer(0, 2), 5);
        D.due("entry(0, 0, 5) stays plain", x.entry(0, 0, 5), 0);
        D.due("entry(0, 2, 5)", x.entry(0, 2, 5), 1);
        int states = x.told(6);
        D.due("a duplicate of a plain one", x.sends(0, 0, 0, 0, 1), 1000);
        D.due("told(6) behind a duplicate", x.told(6), states);
        D.due("part(0, 0) behind a duplicate", x.part(0, 0), 3);
        D.due("a gap", x.sends(0, 0, 0, 3, 1), GAP);
        D.due("a gap in an empty log", x.sends(0, 0, 1, 1, 1), GAP);
        D.due("told(3)", x.told(3), 2);
        D.due("told(6) behind a gap", x.told(6), states);
    }

    private static void sendsErrorOrder() {
        D.about("promise 4, order of errors");
        OnceLetters x = begun();
        x.begins(0);
        D.due("w -1", x.sends(-1, 0, 0, 0, 0), BAD);
        D.due("w 4", x.sends(4, 0, 0, 0, 0), BAD);
        D.due("age -1", x.sends(0, -1, 0, 0, 0), BAD);
        D.due("age 2", x.sends(0, 2, 0, 0, 0), BAD);
        D.due("part -1 before FENCED", x.sends(0, 0, -1, 0, 0), BAD);
        D.due("part 3 before FENCED", x.sends(0, 0, 3, 0, 0), BAD);
        D.due("number -1 before FENCED", x.sends(0, 0, 0, -1, 0), BAD);
        D.due("number 100 before FENCED", x.sends(0, 0, 0, 100, 0), BAD);
        D.due("value -1 before FENCED", x.sends(0, 0, 0, 0, -1), BAD);
        D.due("value 100 before FENCED", x.sends(0, 0, 0, 0, 100), BAD);
        D.due("number 99 is no BAD", x.sends(0, 1, 0, 99, 0), GAP);
        x.opens(0, 1);
        x.sends(0, 1, 0, 0, 1);
        x.ends(0, 1, 1);
        D.due("FENCED before STATE", x.sends(0, 0, 0, 0, 0), FENCED);
        D.due("STATE before the duplicate", x.sends(0, 1, 0, 0, 0), STATE);
        D.due("STATE before GAP", x.sends(0, 1, 0, 5, 0), STATE);
        D.due("told(0)", x.told(0), 10);
    }

    private static void sendsRecent() {
        D.about("promise 4, recent messages");
        OnceLetters x = begun();
        for (int n = 0; n < 5; n++) {
            D.due("sends", x.sends(2, 0, 1, n, n), 2 * n);
            D.due("sends of another", x.sends(3, 0, 1, n, n), 2 * n + 1);
        }
        D.due("number 4", x.sends(2, 0, 1, 4, 0), 1008);
        D.due("number 3", x.sends(2, 0, 1, 3, 0), 1006);
        D.due("number 2", x.sends(2, 0, 1, 2, 0), 1004);
        D.due("number 1 is not recent", x.sends(2, 0, 1, 1, 0), GAP);
        D.due("number 0 is not recent", x.sends(2, 0, 1, 0, 0), GAP);
        D.due("number 2 of the other", x.sends(3, 0, 1, 2, 0), 1005);
        D.due("in another partition", x.sends(2, 0, 0, 4, 0), GAP);
        D.due("number 5", x.sends(2, 0, 1, 5, 0), 10);
    }

    private static void sendsRecentAcrossMarkersAndEpochs() {
        D.about("promise 4, recent messages and epochs");
        OnceLetters x = begun();
        x.opens(0, 0);
        x.sends(0, 0, 0, 0, 1);
        x.sends(0, 0, 0, 1, 2);
        x.ends(0, 0, 0);
        x.ticks(1);
        D.due("a duplicate of an aborted one", x.sends(0, 0, 0, 1, 2), 1001);
        D.due("writer(0, 6)", x.writer(0, 6), 2);
        D.due("the next behind a marker", x.sends(0, 0, 0, 2, 3), 3);
        x.begins(0);
        D.due("writer(0, 6) of a new epoch", x.writer(0, 6), 0);
        D.due("number 3 of a new epoch", x.sends(0, 1, 0, 3, 3), GAP);
        D.due("number 0 of a new epoch", x.sends(0, 1, 0, 0, 3), 4);
        D.due("number 2 of the old epoch", x.sends(0, 1, 0, 2, 3), GAP);
    }

    private static void sendsRoom() {
        D.about("promise 4, room");
        OnceLetters x = begun();
        for (int n = 0; n < 44; n++) {
            x.sends(0, 0, 0, n, n);
        }
        x.opens(1, 0);
        x.opens(2, 0);
        x.opens(3, 0);
        D.due("the last room", x.sends(1, 0, 0, 0, 1), 44);
        D.due("no room for another", x.sends(0, 0, 0, 44, 1), FULL);
        D.due("no room for the same", x.sends(1, 0, 0, 1, 1), FULL);
        D.due("the duplicate before FULL", x.sends(1, 0, 0, 0, 1), 1044);
        D.due("GAP before FULL", x.sends(0, 0, 0, 46, 1), GAP);
        D.due("writer(2, 2) behind FULL", x.sends(2, 0, 0, 0, 1), FULL);
        D.due("writer(2, 2) behind FULL", x.writer(2, 2), 0);
        D.due("ends(2)", x.ends(2, 0, 1), 0);
        D.due("room of the ended one", x.sends(0, 0, 0, 44, 1), 45);
        D.due("ends(3)", x.ends(3, 0, 0), 0);
        D.due("room of the ended one", x.sends(0, 0, 0, 45, 1), 46);
        D.due("no room", x.sends(0, 0, 0, 46, 1), FULL);
        x.ends(1, 0, 1);
        D.due("ticks(1)", x.ticks(1), 1);
        D.due("part(0, 0)", x.part(0, 0), 48);
        D.due("no room at 48", x.sends(0, 0, 0, 46, 1), FULL);
        D.due("entry(0, 47, 0)", x.entry(0, 47, 0), 1);
        D.due("told(4)", x.told(4), 5);
    }

    private static void sendsReserveOfEnding() {
        D.about("promise 4, reserve of ending producers");
        OnceLetters x = begun();
        for (int n = 0; n < 44; n++) {
            x.sends(0, 0, 1, n, n);
        }
        x.opens(1, 0);
        x.sends(1, 0, 0, 0, 1);
        x.sends(1, 0, 1, 0, 1);
        x.ends(1, 0, 1);
        D.due("part(1, 3)", x.part(1, 3), 1);
        D.due("part(2, 3)", x.part(2, 3), 0);
        D.due("room 46", x.sends(0, 0, 1, 44, 1), 45);
        D.due("room 47", x.sends(0, 0, 1, 45, 1), 46);
        D.due("kept for the marker", x.sends(0, 0, 1, 46, 1), FULL);
        D.due("ticks(1)", x.ticks(1), 1);
        D.due("part(0, 3)", x.part(0, 3), 0);
        D.due("part(1, 3)", x.part(1, 3), 1);
        D.due("still kept", x.sends(0, 0, 1, 46, 1), FULL);
        D.due("ticks(1)", x.ticks(1), 1);
        D.due("part(1, 0)", x.part(1, 0), 48);
        D.due("part(1, 3)", x.part(1, 3), 0);
    }

    private static void ends() {
        D.about("promise 5");
        OnceLetters x = begun();
        x.begins(0);
        D.due("w -1", x.ends(-1, 0, 0), BAD);
        D.due("w 4", x.ends(4, 0, 0), BAD);
        D.due("age -1", x.ends(0, -1, 0), BAD);
        D.due("age 2", x.ends(0, 2, 0), BAD);
        D.due("commit -1 before FENCED", x.ends(0, 0, -1), BAD);
        D.due("commit 2 before FENCED", x.ends(0, 0, 2), BAD);
        D.due("FENCED before STATE", x.ends(0, 0, 1), FENCED);
        D.due("idle", x.ends(0, 1, 1), STATE);
        x.opens(0, 1);
        D.due("no partition", x.ends(0, 1, 1), 0);
        D.due("writer(0, 1)", x.writer(0, 1), 0);
        x.opens(0, 1);
        x.sends(0, 1, 2, 0, 1);
        x.sends(0, 1, 0, 0, 2);
        D.due("two partitions", x.ends(0, 1, 1), 2);
        D.due("ending", x.ends(0, 1, 1), STATE);
        D.due("writer(0, 4)", x.writer(0, 4), 1);
        D.due("writer(0, 3)", x.writer(0, 3), 2);
        D.due("all(7)", x.all(7), 2);
        D.due("ticks(1)", x.ticks(1), 1);
        D.due("the lowest first", x.part(0, 0), 2);
        D.due("the next later", x.part(2, 0), 1);
        D.due("writer(0, 2) with a marker written", x.writer(0, 2), 5);
        D.due("ticks(1)", x.ticks(1), 1);
        D.due("the next", x.part(2, 0), 2);
        D.due("writer(0, 1)", x.writer(0, 1), 0);
        x.opens(0, 1);
        x.sends(0, 1, 1, 0, 3);
        D.due("abort", x.ends(0, 1, 0), 1);
        D.due("writer(0, 4)", x.writer(0, 4), 0);
        D.due("ticks(20)", x.ticks(20), 1);
        D.due("entry(1, 1, 4)", x.entry(1, 1, 4), 0);
    }

    private static void carries() {
        D.about("promise 6");
        OnceLetters x = begun();
        x.begins(0);
        x.sends(1, 0, 1, 0, 10);
        x.sends(1, 0, 1, 1, 11);
        D.due("w 4", x.carries(4, 0, 0, 0), BAD);
        D.due("w -1", x.carries(-1, 0, 0, 0), BAD);
        D.due("reader 2 before FENCED", x.carries(0, 0, 2, 0), BAD);
        D.due("reader -1 before FENCED", x.carries(0, 0, -1, 0), BAD);
        D.due("part 3 before FENCED", x.carries(0, 0, 0, 3), BAD);
        D.due("part -1 before FENCED", x.carries(0, 0, 0, -1), BAD);
        D.due("age 2", x.carries(0, 2, 0, 0), BAD);
        D.due("age -1", x.carries(0, -1, 0, 0), BAD);
        D.due("FENCED before STATE", x.carries(0, 0, 0, 0), FENCED);
        D.due("idle", x.carries(0, 1, 0, 0), STATE);
        x.opens(0, 1);
        D.due("position 0", x.carries(0, 1, 1, 1), 0);
        x.reads(1, 1);
        D.due("position 1", x.carries(0, 1, 1, 1), 1);
        x.reads(1, 1);
        D.due("writer(0, 2) is not touched", x.writer(0, 2), 0);
        x.sends(0, 1, 0, 0, 1);
        x.ends(0, 1, 1);
        D.due("ending", x.carries(0, 1, 1, 1), STATE);
        D.due("not saved before the end", x.reader(1, 1, 1), 0);
        x.ticks(1);
        D.due("saved is the latest carried", x.reader(1, 1, 1), 1);
        D.due("the other consumer", x.reader(0, 1, 1), 0);
        D.due("the other partition", x.reader(1, 0, 1), 0);
        x.opens(0, 1);
        D.due("position 2", x.carries(0, 1, 1, 1), 2);
        x.ends(0, 1, 0);
        D.due("an abort saves nothing", x.reader(1, 1, 1), 1);
        x.opens(0, 1);
        x.rewinds(1);
        x.reads(1, 1);
        x.carries(0, 1, 1, 1);
        D.due("a commit without partitions", x.ends(0, 1, 1), 0);
        D.due("saves at once", x.reader(1, 1, 1), 2);
    }

    private static void carriesOfTwoDeeds() {
        D.about("promise 6, two transactions");
        OnceLetters x = begun();
        x.sends(3, 0, 0, 0, 10);
        x.sends(3, 0, 0, 1, 11);
        x.opens(0, 0);
        x.opens(1, 0);
        x.carries(1, 0, 0, 0);
        x.reads(0, 0);
        x.carries(0, 0, 0, 0);
        D.due("ends(0)", x.ends(0, 0, 1), 0);
        D.due("saved by 0", x.reader(0, 0, 1), 1);
        D.due("ends(1)", x.ends(1, 0, 1), 0);
        D.due("saved by 1, back to 0", x.reader(0, 0, 1), 0);
        x.opens(0, 0);
        x.opens(1, 0);
        x.sends(0, 0, 1, 0, 0);
        x.sends(1, 0, 2, 0, 0);
        x.carries(1, 0, 0, 0);
        x.reads(0, 0);
        x.carries(0, 0, 0, 0);
        x.ends(1, 0, 1);
        x.ends(0, 0, 1);
        D.due("both markers in a tick", x.ticks(1), 2);
        D.due("the higher producer finishes later", x.reader(0, 0, 1), 1);
    }

    private static void ticks() {
        D.about("promise 7");
        OnceLetters x = begun();
        int states = x.told(6);
        D.due("ticks(0)", x.ticks(0), BAD);
        D.due("ticks(-1)", x.ticks(-1), BAD);
        D.due("ticks(21)", x.ticks(21), BAD);
        D.due("ticks(max)", x.ticks(Integer.MAX_VALUE), BAD);
        D.due("told(6)", x.told(6), states);
        D.due("all(0)", x.all(0), 0);
        D.due("ticks(1)", x.ticks(1), 0);
        D.due("ticks(20)", x.ticks(20), 0);
        D.due("all(0)", x.all(0), 21);
        x.opens(2, 0);
        for (int p = 0; p < 3; p++) {
            x.sends(2, 0, p, 0, p);
        }
        D.due("ends", x.ends(2, 0, 1), 3);
        D.due("ticks(2)", x.ticks(2), 2);
        D.due("part(2, 0)", x.part(2, 0), 1);
        D.due("writer(2, 1)", x.writer(2, 1), 2);
        D.due("ticks(2)", x.ticks(2), 1);
        D.due("part(2, 0)", x.part(2, 0), 2);
        D.due("writer(2, 1)", x.writer(2, 1), 0);
    }

    private static void ticksMarkerOrder() {
        D.about("promise 7, order of markers");
        OnceLetters x = begun();
        for (int w = 3; w >= 0; w--) {
            x.opens(w, 0);
            x.sends(w, 0, 1, 0, w);
        }
        for (int w = 3; w >= 0; w--) {
            x.ends(w, 0, w % 2);
        }
        D.due("ticks(1)", x.ticks(1), 4);
        for (int w = 0; w < 4; w++) {
            D.due("producer of the marker", x.entry(1, 4 + w, 1), w);
            D.due("its kind", x.entry(1, 4 + w, 4), w % 2);
        }
    }

    private static void ticksHanging() {
        D.about("promise 7, hanging");
        OnceLetters x = begun();
        x.limit(3);
        x.opens(1, 0);
        x.opens(2, 0);
        x.sends(2, 0, 0, 0, 5);
        x.ticks(1);
        x.opens(0, 0);
        D.due("ticks(1)", x.ticks(1), 0);
        D.due("not yet", x.writer(2, 1), 1);
        D.due("writer(2, 5)", x.writer(2, 5), 2);
        D.due("the one that hangs is aborted", x.ticks(1), 0);
        D.due("writer(2, 1)", x.writer(2, 1), 2);
        D.due("writer(2, 0)", x.writer(2, 0), 1);
        D.due("writer(2, 3)", x.writer(2, 3), 1);
        D.due("an empty one is idle at once", x.writer(1, 1), 0);
        D.due("with a new epoch", x.writer(1, 0), 1);
        D.due("the younger one is open", x.writer(0, 1), 1);
        D.due("the marker comes a tick later", x.ticks(1), 1);
        D.due("with the new epoch", x.entry(0, 1, 2), 1);
        D.due("writer(2, 1)", x.writer(2, 1), 0);
        D.due("the younger one hangs too", x.writer(0, 0), 1);
        x.opens(3, 0);
        x.ticks(2);
        x.limit(1);
        D.due("a new limit holds from the next tick", x.writer(3, 1), 1);
        x.ticks(1);
        D.due("a new limit holds from the next tick", x.writer(3, 1), 0);
    }

    private static void hangingBeyond99() {
        D.about("promise 7, epochs beyond 99");
        OnceLetters x = new OnceLetters();
        for (int age = 0; age < 100; age++) {
            x.begins(0);
        }
        x.opens(0, 99);
        x.sends(0, 99, 0, 0, 1);
        x.ticks(5);
        D.due("writer(0, 0)", x.writer(0, 0), 100);
        x.ticks(1);
        D.due("entry(0, 1, 2)", x.entry(0, 1, 2), 100);
        D.due("begins(0)", x.begins(0), FULL);
        D.due("opens(0, 99)", x.opens(0, 99), FENCED);
        D.due("opens(0, 100)", x.opens(0, 100), 1);
        D.due("sends", x.sends(0, 100, 0, 0, 1), 2);
    }

    private static void limit() {
        D.about("promise 8");
        OnceLetters x = new OnceLetters();
        D.due("limit(0)", x.limit(0), BAD);
        D.due("limit(-1)", x.limit(-1), BAD);
        D.due("limit(21)", x.limit(21), BAD);
        D.due("told(6)", x.told(6), 0);
        D.due("limit(20)", x.limit(20), 5);
        D.due("limit(1)", x.limit(1), 20);
        D.due("limit(1)", x.limit(1), 1);
        D.due("all(1)", x.all(1), 1);
        D.due("told(6)", x.told(6), 3);
        x.begins(0);
        x.opens(0, 0);
        x.ticks(1);
        D.due("limit 1 aborts in the first tick", x.writer(0, 1), 0);
        x.limit(20);
        x.opens(0, 1);
        x.ticks(19);
        D.due("limit 20 at 19", x.writer(0, 1), 1);
        x.ticks(1);
        D.due("limit 20 at 20", x.writer(0, 1), 0);
    }

    private static void writer() {
        D.about("promise 9");
        OnceLetters x = begun();
        D.due("writer(-1, 0)", x.writer(-1, 0), BAD);
        D.due("writer(4, 0)", x.writer(4, 0), BAD);
        D.due("writer(0, -1)", x.writer(0, -1), BAD);
        D.due("writer(0, 9)", x.writer(0, 9), BAD);
        D.due("told(0)", x.told(0), 4);
        x.sends(0, 0, 0, 0, 1);
        x.ticks(7);
        x.opens(0, 0);
        x.sends(0, 0, 1, 0, 1);
        x.sends(0, 0, 1, 1, 1);
        x.sends(0, 0, 2, 0, 1);
        x.ticks(2);
        int[] open = {0, 1, 6, 0, 0, 2, 1, 2, 1};
        for (int what = 0; what < 9; what++) {
            D.due("open: writer(0, " + what + ")", x.writer(0, what), open[what]);
        }
        x.ends(0, 0, 1);
        x.ticks(1);
        int[] ending = {0, 2, 6, 1, 1, NONE, 1, 2, 1};
        for (int what = 0; what < 9; what++) {
            D.due("ending: writer(0, " + what + ")", x.writer(0, what), ending[what]);
        }
        x.ticks(1);
        int[] idle = {0, 0, 0, 0, 0, NONE, 1, 2, 1};
        for (int what = 0; what < 9; what++) {
            D.due("idle: writer(0, " + what + ")", x.writer(0, what), idle[what]);
        }
        D.due("told(0)", x.told(0), 4);
    }
}
