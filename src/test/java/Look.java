import java.util.ArrayList;
import java.util.List;

/** All that can be seen of an object from outside, but for the counts of errors, which every refused call changes. */
final class Look {
    private static final int BACKS = 7, TICKS = 20;

    private Look() {
    }

    static List<String> state(OnceLetters x) {
        List<String> seen = new ArrayList<>();
        for (int what = 0; what < 8; what++) {
            seen.add("all(" + what + ") = " + x.all(what));
        }
        for (int w = 0; w < 4; w++) {
            for (int what = 0; what < 9; what++) {
                seen.add("writer(" + w + ", " + what + ") = " + x.writer(w, what));
            }
        }
        for (int p = 0; p < 3; p++) {
            addPart(seen, x, p);
        }
        for (int r = 0; r < 2; r++) {
            for (int i = 0; i < 12; i++) {
                seen.add("reader(" + r + ", " + i / 4 + ", " + i % 4 + ") = " + x.reader(r, i / 4, i % 4));
            }
        }
        return seen;
    }

    private static void addPart(List<String> seen, OnceLetters x, int p) {
        for (int what = 0; what < 6; what++) {
            seen.add("part(" + p + ", " + what + ") = " + x.part(p, what));
        }
        int entries = x.part(p, 0);
        for (int i = 0; i < 7 * entries; i++) {
            seen.add("entry(" + p + ", " + i / 7 + ", " + i % 7 + ") = " + x.entry(p, i / 7, i % 7));
        }
        int deeds = x.part(p, 5);
        for (int i = 0; i < 3 * deeds; i++) {
            seen.add("aborted(" + p + ", " + i / 3 + ", " + i % 3 + ") = " + x.aborted(p, i / 3, i % 3));
        }
    }

    static int[] errors(OnceLetters x) {
        int[] counts = new int[5];
        for (int what = 0; what < 5; what++) {
            counts[what] = x.told(what);
        }
        return counts;
    }

    /** What back() still returns to, the newest first; the object is at its oldest state then. */
    static List<List<String>> past(OnceLetters x) {
        List<List<String>> states = new ArrayList<>();
        for (int i = 0; i < BACKS; i++) {
            int left = x.back();
            if (left < 0) {
                break;
            }
            List<String> seen = state(x);
            seen.add("back() = " + left);
            states.add(seen);
        }
        return states;
    }

    /** What becomes of open transactions: each tick until they hang, or what they carry once they are committed. */
    static List<String> future(OnceLetters x, boolean commits) {
        List<String> seen = new ArrayList<>();
        for (int w = 0; w < 4 && commits; w++) {
            seen.add("ends(" + w + ") = " + x.ends(w, x.writer(w, 0), 1));
        }
        for (int i = 0; i < TICKS; i++) {
            seen.add("ticks(1) = " + x.ticks(1));
            for (int w = 0; w < 4; w++) {
                seen.add("writer(" + w + ", 0) = " + x.writer(w, 0));
            }
        }
        seen.addAll(state(x));
        return seen;
    }

    /** What the text does. */
    static List<String> text(OnceLetters x) {
        List<String> seen = new ArrayList<>();
        seen.add("does() = " + x.does());
        seen.add("asked() = " + x.asked());
        seen.addAll(state(x));
        return seen;
    }

    /** Where two lists differ first, or "" if they are alike. */
    static String difference(List<String> got, List<String> want) {
        for (int i = 0; i < Math.max(got.size(), want.size()); i++) {
            String a = i < got.size() ? got.get(i) : "nothing";
            String b = i < want.size() ? want.get(i) : "nothing";
            if (!a.equals(b)) {
                return a + " where due is " + b;
            }
        }
        return "";
    }
}
