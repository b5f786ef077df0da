import java.util.Arrays;
import java.util.Random;
import java.util.TreeMap;

/** Random runs of up to 512 calls, each answered by the class and by the model; the seeds are fixed. */
public final class ModelTest {
    private static final int RUNS = 1500, CALLS = 512;
    private static final Due D = new Due();
    private static final String NAMES = "bosectlrw";
    /** How often each kind of answer came, so that a run that never meets an error does not count as a test. */
    private static final TreeMap<String, Integer> MET = new TreeMap<>();

    private final Random random;
    /** Small for runs that keep to few producers and partitions, and so fill the logs and epochs. */
    private final int width;
    private final int wild;
    private final int ticky;
    private final int backs;
    private final OnceLetters x = new OnceLetters();
    private final Model m = new Model();

    private ModelTest(long seed) {
        // Random's first numbers are nearly the same for seeds that lie close together, and with them the width.
        random = new Random(seed * 0x9E3779B97F4A7C15L);
        width = 1 + random.nextInt(4);
        wild = random.nextInt(3) == 0 ? 10 : 60;
        ticky = 1 + random.nextInt(5);
        backs = random.nextInt(3) == 0 ? 4 : 40;
    }

    public static void main(String[] args) {
        for (int run = 0; run < RUNS && D.wrong() < 20; run++) {
            D.about("seed " + run);
            new ModelTest(run).run();
        }
        String[] wanted = {
            "begins FULL", "begins STATE", "begins BAD", "opens FENCED", "opens STATE", "opens BAD",
            "sends TWIN", "sends GAP", "sends FULL", "sends STATE", "sends FENCED", "sends BAD",
            "ends STATE", "ends FENCED", "ends BAD", "carries STATE", "carries FENCED", "carries BAD",
            "ticks BAD", "limit BAD", "reads NONE", "reads BAD", "rewinds BAD", "type FULL", "type BAD",
            "back STATE", "back ok", "does ok", "does fault", "aborted NONE", "aborted ok", "entry ok", "full log",
            "high epoch",
        };
        for (String name : wanted) {
            D.about("answers that were met");
            D.holds(name, MET.getOrDefault(name, 0) >= 20);
        }
        System.out.println(MET);
        D.end();
    }

    private void run() {
        for (int i = 0; i < CALLS; i++) {
            step();
            if (random.nextInt(16) == 0 || i == CALLS - 1) {
                D.due("digest()", x.digest(), m.digest());
            }
            if (D.wrong() > 0) {
                return;
            }
        }
        for (int p = 0; p < 3; p++) {
            met("full log", m.world.logs.get(p).size() == 48);
        }
        met("high epoch", m.world.epoch[0] > 99);
    }

    private static void met(String what, boolean is) {
        if (is) {
            MET.merge(what, 1, Integer::sum);
        }
    }

    private void answer(String name, int[] args, long got, long want) {
        D.due(name + Arrays.toString(args), got, want);
        String kind = want >= 1000 && name.equals("sends") ? "TWIN" : want >= 0 ? "ok" : want <= -10 ? "fault" : switch ((int) want) {
            case -1 -> "NONE";
            case -2 -> "BAD";
            case -3 -> "STATE";
            case -4 -> "FULL";
            case -6 -> "FENCED";
            default -> "GAP";
        };
        met(name + " " + kind, true);
    }

    private int near(int bound) {
        if (random.nextInt(wild) == 0) {
            int[] odd = {-1, bound, bound + 1, 99, 100, -2, Integer.MIN_VALUE, Integer.MAX_VALUE};
            return odd[random.nextInt(odd.length)];
        }
        return random.nextInt(Math.min(bound, width));
    }

    private int what(int bound) {
        return random.nextInt(wild) == 0 ? near(bound) : random.nextInt(bound);
    }

    private int age(int w) {
        int epoch = w < 0 || w > 3 ? 0 : m.world.epoch[w];
        return random.nextInt(wild) == 0 ? epoch - 2 + random.nextInt(4) : epoch;
    }

    private int number(int w, int p) {
        if (w < 0 || w > 3 || p < 0 || p > 2 || random.nextInt(wild) == 0) {
            return near(100);
        }
        return m.world.nextNumber(w, p) - (random.nextInt(6) == 0 ? random.nextInt(6) - 1 : 0);
    }

    private void step() {
        int dice = random.nextInt(100);
        if (dice < 70) {
            writes();
        } else if (dice < 70 + 100 / backs) {
            answer("back", new int[0], x.back(), m.back());
        } else if (dice < 96) {
            asks();
        } else {
            text();
        }
    }

    private int[] order() {
        int dice = random.nextInt(40 + 4 * ticky);
        int w = near(4);
        int p = near(3);
        if (dice < 2) return new int[] {'b', w};
        if (dice < 8) return new int[] {'o', w, age(w)};
        if (dice < 24) return new int[] {'s', w, age(w), p, number(w, p), near(100) * 7 % 100};
        if (dice < 28) return new int[] {'e', w, age(w), what(2)};
        if (dice < 31) return new int[] {'c', w, age(w), what(2), p};
        if (dice < 37) return new int[] {'r', what(2), p};
        if (dice < 38) return new int[] {'w', what(2)};
        if (dice < 39) return new int[] {'l', 1 + near(20) * 3};
        return new int[] {'t', random.nextInt(wild) == 0 ? near(21) : 1 + random.nextInt(3)};
    }

    private void writes() {
        int[] c = order();
        long got = switch (c[0]) {
            case 'b' -> x.begins(c[1]);
            case 'o' -> x.opens(c[1], c[2]);
            case 's' -> x.sends(c[1], c[2], c[3], c[4], c[5]);
            case 'e' -> x.ends(c[1], c[2], c[3]);
            case 'c' -> x.carries(c[1], c[2], c[3], c[4]);
            case 't' -> x.ticks(c[1]);
            case 'l' -> x.limit(c[1]);
            case 'r' -> x.reads(c[1], c[2]);
            default -> x.rewinds(c[1]);
        };
        String[] names = {"begins", "opens", "sends", "ends", "carries", "ticks", "limit", "reads", "rewinds"};
        answer(names[NAMES.indexOf(c[0])], Arrays.copyOfRange(c, 1, c.length), got, m.call(c));
    }

    private void asks() {
        int a = near(4);
        int p = near(3);
        int r = what(2);
        int k = random.nextInt(6) == 0 ? near(48) : random.nextInt(48);
        int what = what(9);
        switch (random.nextInt(8)) {
            case 0 -> answer("writer", new int[] {a, what}, x.writer(a, what), m.counted(m.world.writer(a, what)));
            case 1 -> answer("entry", new int[] {p, k, what}, x.entry(p, k, what), m.counted(m.world.entry(p, k, what)));
            case 2 -> answer("part", new int[] {p, what}, x.part(p, what), m.counted(m.world.part(p, what)));
            case 3 -> answer("aborted", new int[] {p, k % 5, what}, x.aborted(p, k % 5, what), m.counted(m.world.aborted(p, k % 5, what)));
            case 4 -> answer("reader", new int[] {r, p, what}, x.reader(r, p, what), m.counted(m.world.reader(r, p, what)));
            case 5 -> answer("all", new int[] {what}, x.all(what), m.counted(m.world.all(what)));
            case 6 -> answer("told", new int[] {what}, x.told(what), m.told(what));
            default -> answer("asked", new int[0], x.asked(), m.asked());
        }
    }

    private String blanks() {
        return " ".repeat(random.nextInt(5) == 0 ? random.nextInt(3) : 0);
    }

    private String orders() {
        StringBuilder text = new StringBuilder();
        if (random.nextInt(4) == 0) {
            int w = random.nextInt(width);
            return ("b" + w + ";").repeat(40);
        }
        int count = random.nextInt(14);
        for (int i = 0; i < count; i++) {
            int[] c = order();
            if (c[0] == 'w' || c[0] == 'l') {
                continue;
            }
            text.append(blanks()).append((char) c[0]);
            for (int j = 1; j < c.length; j++) {
                int number = Math.floorMod(c[j], 100);
                text.append(j > 1 ? " " : "").append(blanks());
                text.append(number < 10 && random.nextInt(9) == 0 ? "0" : "").append(number);
            }
            text.append(blanks()).append(';').append(blanks());
        }
        if (random.nextInt(5) == 0 && text.length() > 0) {
            String signs = " 0129;;bostercx/:A\0\t~";
            int at = random.nextInt(text.length());
            char sign = signs.charAt(random.nextInt(signs.length()));
            if (random.nextBoolean()) {
                text.setCharAt(at, sign);
            } else {
                text.insert(at, sign);
            }
        }
        return text.toString();
    }

    private void text() {
        if (random.nextInt(6) > 0) {
            answer("clear", new int[0], x.clear(), m.clear());
        }
        String text = orders();
        for (int i = 0; i < text.length() && i < 130; i++) {
            int c = random.nextInt(40 * wild) == 0 ? near(128) : text.charAt(i);
            answer("type", new int[] {c}, x.type(c), m.type(c));
        }
        answer("does", new int[0], x.does(), m.does());
        answer("asked", new int[0], x.asked(), m.asked());
    }
}
