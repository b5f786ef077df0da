import java.util.ArrayList;
import java.util.List;
import java.util.regex.Matcher;
import java.util.regex.Pattern;

/**
 * The document once more, written in another way: transactions are objects, a state is the list of the
 * calls that led to it and is restored by carrying them out again, and faults are found by a pattern.
 */
final class Model {
    static final int NONE = -1, BAD = -2, STATE = -3, FULL = -4, FENCED = -6, GAP = -7, TWIN = 1000;

    static final class Deed {
        int producer;
        int openedAt;
        int how = -1;
        Integer[] firstIn = new Integer[3];
        Integer[] markerIn = new Integer[3];
        Integer[] scheduledFor = new Integer[3];
        Integer[][] carried = new Integer[2][3];
    }

    record Entry(boolean marker, int producer, int epoch, int number, int value, Deed deed) {
    }

    /** What back() restores. */
    static final class World {
        int time = 0;
        int limit = 5;
        int[] epoch = {-1, -1, -1, -1};
        Deed[] deed = new Deed[4];
        List<List<Entry>> logs = List.of(new ArrayList<>(), new ArrayList<>(), new ArrayList<>());
        int[][] at = new int[2][3];
        int[][] saved = new int[2][3];

        boolean open(int w) {
            return deed[w] != null && deed[w].how < 0;
        }

        boolean ending(int w) {
            return deed[w] != null && deed[w].how >= 0;
        }

        int opened() {
            int n = 0;
            for (int w = 0; w < 4; w++) {
                n += open(w) ? 1 : 0;
            }
            return n;
        }

        int apply(int[] c) {
            switch (c[0]) {
                case 'b': return begins(c[1]);
                case 'o': return opens(c[1], c[2]);
                case 's': return sends(c[1], c[2], c[3], c[4], c[5]);
                case 'e': return ends(c[1], c[2], c[3]);
                case 'c': return carries(c[1], c[2], c[3], c[4]);
                case 't': return ticks(c[1]);
                case 'l': return limit(c[1]);
                case 'r': return reads(c[1], c[2]);
                case 'w': return rewinds(c[1]);
                default: throw new IllegalArgumentException();
            }
        }

        int begins(int w) {
            if (w < 0 || w > 3) return BAD;
            if (ending(w)) return STATE;
            if (epoch[w] >= 99) return FULL;
            epoch[w]++;
            if (open(w)) end(w, 0);
            return epoch[w];
        }

        boolean badEpoch(int w, int age) {
            return w < 0 || w > 3 || age < 0 || age > epoch[w];
        }

        int opens(int w, int age) {
            if (badEpoch(w, age)) return BAD;
            if (age != epoch[w]) return FENCED;
            if (deed[w] != null) return STATE;
            deed[w] = new Deed();
            deed[w].producer = w;
            deed[w].openedAt = time;
            return opened();
        }

        List<Integer> recent(int w, int p) {
            List<Integer> places = new ArrayList<>();
            for (int i = 0; i < logs.get(p).size(); i++) {
                Entry e = logs.get(p).get(i);
                if (!e.marker && e.producer == w && e.epoch == epoch[w]) places.add(i);
            }
            return places.subList(Math.max(0, places.size() - 3), places.size());
        }

        int nextNumber(int w, int p) {
            List<Integer> places = recent(w, p);
            return places.isEmpty() ? 0 : logs.get(p).get(places.get(places.size() - 1)).number + 1;
        }

        int reserve(int p) {
            int n = opened();
            for (int w = 0; w < 4; w++) {
                if (ending(w) && deed[w].firstIn[p] != null && deed[w].markerIn[p] == null) n++;
            }
            return n;
        }

        int sends(int w, int age, int p, int number, int value) {
            if (badEpoch(w, age) || p < 0 || p > 2 || number < 0 || number > 99 || value < 0 || value > 99) return BAD;
            if (age != epoch[w]) return FENCED;
            if (ending(w)) return STATE;
            for (int place : recent(w, p)) {
                if (logs.get(p).get(place).number == number) return TWIN + place;
            }
            if (number != nextNumber(w, p)) return GAP;
            if (logs.get(p).size() + reserve(p) >= 48) return FULL;
            int place = logs.get(p).size();
            logs.get(p).add(new Entry(false, w, age, number, value, deed[w]));
            if (deed[w] != null && deed[w].firstIn[p] == null) deed[w].firstIn[p] = place;
            return place;
        }

        int ends(int w, int age, int commit) {
            if (badEpoch(w, age) || commit < 0 || commit > 1) return BAD;
            if (age != epoch[w]) return FENCED;
            if (!open(w)) return STATE;
            return end(w, commit);
        }

        int end(int w, int commit) {
            int n = 0;
            deed[w].how = commit;
            for (int p = 0; p < 3; p++) {
                if (deed[w].firstIn[p] != null) deed[w].scheduledFor[p] = time + ++n;
            }
            if (n == 0) finish(w);
            return n;
        }

        void finish(int w) {
            for (int i = 0; i < 6 && deed[w].how == 1; i++) {
                Integer place = deed[w].carried[i / 3][i % 3];
                if (place != null) saved[i / 3][i % 3] = place;
            }
            deed[w] = null;
        }

        int carries(int w, int age, int r, int p) {
            if (badEpoch(w, age) || r < 0 || r > 1 || p < 0 || p > 2) return BAD;
            if (age != epoch[w]) return FENCED;
            if (!open(w)) return STATE;
            deed[w].carried[r][p] = at[r][p];
            return at[r][p];
        }

        int scheduled(int w) {
            int n = 0;
            for (int p = 0; p < 3 && ending(w); p++) {
                if (deed[w].scheduledFor[p] != null && deed[w].markerIn[p] == null) n++;
            }
            return n;
        }

        int ticks(int n) {
            if (n < 1 || n > 20) return BAD;
            int before = allMarkers();
            for (int i = 0; i < n; i++) tick();
            return allMarkers() - before;
        }

        void tick() {
            time++;
            for (int w = 0; w < 4; w++) {
                for (int p = 0; p < 3 && ending(w); p++) {
                    Integer when = deed[w].scheduledFor[p];
                    if (when != null && when == time) {
                        deed[w].markerIn[p] = logs.get(p).size();
                        logs.get(p).add(new Entry(true, w, epoch[w], NONE, deed[w].how, deed[w]));
                        if (scheduled(w) == 0) {
                            finish(w);
                            break;
                        }
                    }
                }
            }
            for (int w = 0; w < 4; w++) {
                if (open(w) && time - deed[w].openedAt >= limit) {
                    epoch[w]++;
                    end(w, 0);
                }
            }
        }

        int limit(int n) {
            if (n < 1 || n > 20) return BAD;
            int old = limit;
            limit = n;
            return old;
        }

        int allMarkers() {
            int n = 0;
            for (List<Entry> log : logs) {
                for (Entry e : log) n += e.marker ? 1 : 0;
            }
            return n;
        }

        int writer(int w, int what) {
            if (w < 0 || w > 3 || what < 0 || what > 8) return BAD;
            if (what == 0) return epoch[w];
            if (what == 1) return open(w) ? 1 : ending(w) ? 2 : 0;
            if (what == 2) {
                int set = 0;
                for (int p = 0; p < 3 && deed[w] != null; p++) set += deed[w].firstIn[p] != null ? 1 << p : 0;
                return set;
            }
            if (what == 3) return scheduled(w);
            if (what == 4) return ending(w) && deed[w].how == 1 ? 1 : 0;
            if (what == 5) return open(w) ? time - deed[w].openedAt : NONE;
            return nextNumber(w, what - 6);
        }

        Deed holder(int p) {
            Deed best = null;
            for (Deed d : deed) {
                if (d != null && d.firstIn[p] != null && d.markerIn[p] == null
                        && (best == null || d.firstIn[p] < best.firstIn[p])) best = d;
            }
            return best;
        }

        int stable(int p) {
            return holder(p) == null ? logs.get(p).size() : holder(p).firstIn[p];
        }

        int fate(int p, int place) {
            Entry e = logs.get(p).get(place);
            if (e.marker) return NONE;
            if (e.deed == null) return 0;
            return e.deed.markerIn[p] == null ? 1 : e.deed.how == 1 ? 2 : 3;
        }

        boolean visible(int p, int place) {
            return place < stable(p) && (fate(p, place) == 0 || fate(p, place) == 2);
        }

        List<Integer> visibleFrom(int p, int start) {
            List<Integer> places = new ArrayList<>();
            for (int i = start; i < logs.get(p).size(); i++) {
                if (visible(p, i)) places.add(i);
            }
            return places;
        }

        List<Deed> aborts(int p) {
            List<Deed> found = new ArrayList<>();
            for (Entry e : logs.get(p)) {
                if (e.marker && e.value == 0) found.add(e.deed);
            }
            found.sort((a, b) -> a.firstIn[p] - b.firstIn[p]);
            return found;
        }

        int entry(int p, int place, int what) {
            if (p < 0 || p > 2 || place < 0 || place >= logs.get(p).size() || what < 0 || what > 6) return BAD;
            Entry e = logs.get(p).get(place);
            int[] row = {e.marker ? 1 : 0, e.producer, e.epoch, e.number, e.value, fate(p, place), visible(p, place) ? 1 : 0};
            return row[what];
        }

        int part(int p, int what) {
            if (p < 0 || p > 2 || what < 0 || what > 5) return BAD;
            int[] row = {logs.get(p).size(), stable(p), visibleFrom(p, 0).size(), reserve(p),
                holder(p) == null ? NONE : holder(p).producer, aborts(p).size()};
            return row[what];
        }

        int aborted(int p, int k, int what) {
            if (p < 0 || p > 2 || k < 0 || what < 0 || what > 2) return BAD;
            if (k >= aborts(p).size()) return NONE;
            Deed d = aborts(p).get(k);
            return what == 0 ? d.producer : what == 1 ? d.firstIn[p] : d.markerIn[p];
        }

        int reads(int r, int p) {
            if (r < 0 || r > 1 || p < 0 || p > 2) return BAD;
            List<Integer> places = visibleFrom(p, at[r][p]);
            if (places.isEmpty()) return NONE;
            at[r][p] = places.get(0) + 1;
            return logs.get(p).get(places.get(0)).value;
        }

        int rewinds(int r) {
            if (r < 0 || r > 1) return BAD;
            int n = 0;
            for (int p = 0; p < 3; p++) n += at[r][p] != saved[r][p] ? 1 : 0;
            at[r] = saved[r].clone();
            return n;
        }

        int reader(int r, int p, int what) {
            if (r < 0 || r > 1 || p < 0 || p > 2 || what < 0 || what > 3) return BAD;
            List<Integer> places = visibleFrom(p, at[r][p]);
            int[] row = {at[r][p], saved[r][p], places.size(), places.isEmpty() ? NONE : places.get(0)};
            return row[what];
        }

        int all(int what) {
            if (what < 0 || what > 7) return BAD;
            int[] row = {time, limit, opened(), 0, 0, allMarkers(), 0, 0};
            for (int w = 0; w < 4; w++) {
                row[3] += ending(w) ? 1 : 0;
                row[7] += scheduled(w);
            }
            for (int p = 0; p < 3; p++) {
                row[4] += logs.get(p).size();
                row[6] += visibleFrom(p, 0).size();
            }
            return row[what];
        }
    }

    World world = new World();
    /** Every call that left a state, with its orders; a call of another method is one order. */
    private final List<List<int[]>> history = new ArrayList<>();
    private int kept = 0;
    private final int[] errors = new int[5];
    private final StringBuilder text = new StringBuilder();
    private int last = 0;

    int counted(int answer) {
        int[] codes = {BAD, FENCED, STATE, GAP, FULL};
        for (int i = 0; i < 5; i++) {
            if (answer == codes[i]) errors[i]++;
        }
        return answer;
    }

    /** A call that may leave a state. */
    int call(int... c) {
        int answer = counted(world.apply(c));
        if (answer >= 0 && !(c[0] == 's' && answer >= TWIN)) leave(List.of(c));
        return answer;
    }

    private void leave(List<int[]> orders) {
        history.add(orders);
        kept = Math.min(6, kept + 1);
    }

    int back() {
        if (kept == 0) return counted(STATE);
        kept--;
        history.remove(history.size() - 1);
        world = new World();
        for (List<int[]> orders : history) {
            for (int[] order : orders) world.apply(order);
        }
        return kept;
    }

    int type(int c) {
        if (c < 0 || c > 127) return counted(BAD);
        if (text.length() == 120) return counted(FULL);
        text.append((char) c);
        return text.length();
    }

    int clear() {
        int n = text.length();
        text.setLength(0);
        return n;
    }

    int asked() {
        return last;
    }

    private static final String N = " *[0-9]{1,2}", M = " +[0-9]{1,2}";
    private static final Pattern ORDERS = Pattern.compile(" *(?:(?:[bt]" + N + "|[or]" + N + M + "|e" + N + M + M
        + "|c" + N + M + M + M + "|s" + N + M + M + M + M + ") *; *)+");

    int fault() {
        for (int i = 1; i <= text.length(); i++) {
            Matcher m = ORDERS.matcher(text.substring(0, i));
            if (!m.matches() && !m.hitEnd()) return i - 1;
        }
        return ORDERS.matcher(text).matches() ? NONE : text.length();
    }

    int does() {
        int fault = fault();
        if (fault >= 0) return -10 - fault;
        List<int[]> orders = new ArrayList<>();
        int good = 0;
        for (String order : text.toString().split(";")) {
            String body = order.trim();
            if (body.isEmpty()) continue;
            String[] numbers = body.substring(1).trim().split(" +");
            int[] c = new int[numbers.length + 1];
            c[0] = body.charAt(0);
            for (int i = 0; i < numbers.length; i++) c[i + 1] = Integer.parseInt(numbers[i]);
            last = counted(world.apply(c));
            good += last >= 0 ? 1 : 0;
            orders.add(c);
        }
        leave(orders);
        return good;
    }

    int told(int what) {
        if (what < 0 || what > 6) return counted(BAD);
        return what < 5 ? errors[what] : what == 5 ? text.length() : kept;
    }

    long digest() {
        List<Integer> v = new ArrayList<>();
        for (int i = 0; i < 7; i++) v.add(told(i));
        for (int i = 0; i < 8; i++) v.add(world.all(i));
        for (int w = 0; w < 4; w++) {
            for (int i = 0; i < 9; i++) v.add(world.writer(w, i));
        }
        for (int p = 0; p < 3; p++) {
            for (int i = 0; i < 6; i++) v.add(world.part(p, i));
            for (int place = 0; place < world.logs.get(p).size(); place++) {
                for (int i = 0; i < 7; i++) v.add(world.entry(p, place, i));
            }
            for (int k = 0; k < world.aborts(p).size(); k++) {
                for (int i = 0; i < 3; i++) v.add(world.aborted(p, k, i));
            }
        }
        for (int r = 0; r < 2; r++) {
            for (int p = 0; p < 3; p++) {
                for (int i = 0; i < 4; i++) v.add(world.reader(r, p, i));
            }
        }
        long h = 2297;
        for (int x : v) h = 31 * h + x;
        return h;
    }
}
