import java.lang.reflect.Method;
import java.util.ArrayList;
import java.util.Arrays;
import java.util.HashMap;
import java.util.List;
import java.util.Map;
import java.util.regex.Matcher;
import java.util.regex.Pattern;

/**
 * Runs of calls on a new object, in the form of the document's examples: "begins(0) = 0; opens(0, 0) = 1".
 * An answer is a number or the name of a constant; without one, the call must answer 0 or more. "48 * sends(0, 0, 0,
 * #, 5) = #" is 48 calls, # counting them from 0; "types('b0;')" is type() for each sign; // begins a remark.
 *
 * Besides the answers, each call is held against what the document says of all calls: a refused call is counted and
 * changes nothing else; a successful one that leaves a state can be undone by back(); a question changes nothing.
 */
final class Run {
    private static final List<String> ERRORS = List.of("BAD", "FENCED", "STATE", "GAP", "FULL");
    private static final List<Integer> CODES = List.of(-2, -6, -3, -7, -4);
    private static final List<String> LEAVES_STATE = List.of(
        "begins", "opens", "sends", "ends", "carries", "ticks", "limit", "reads", "rewinds", "does");
    private static final Pattern FORM = Pattern.compile("(?:(\\d+) \\* )?(\\w+)\\((.*)\\)(?: = (.+))?", Pattern.DOTALL);
    private static final Map<String, Method> METHODS = methods();

    /** A call; 'watched' tells whether what it changes is looked at, which is left out in the middle of many alike. */
    private record Call(String name, Object[] args, String want, boolean watched) {
        long on(OnceLetters x) {
            try {
                return ((Number) METHODS.get(name).invoke(x, args)).longValue();
            } catch (ReflectiveOperationException e) {
                throw new IllegalStateException(this + " threw", e);
            }
        }

        @Override
        public String toString() {
            String list = Arrays.toString(args);
            return name + "(" + list.substring(1, list.length() - 1) + ")";
        }
    }

    private final Due due;
    private final List<Call> calls = new ArrayList<>();

    private Run(Due due) {
        this.due = due;
    }

    static void run(Due due, String script) {
        Run run = new Run(due);
        run.read(script);
        run.answers();
    }

    private static Map<String, Method> methods() {
        Map<String, Method> found = new HashMap<>();
        for (Method method : OnceLetters.class.getMethods()) {
            if (method.getDeclaringClass() == OnceLetters.class) {
                found.put(method.getName(), method);
            }
        }
        return found;
    }

    // ---- reading the script

    private void read(String script) {
        StringBuilder statement = new StringBuilder();
        boolean quoted = false;
        for (char c : (script.replaceAll("//[^\n]*", "") + ";").toCharArray()) {
            quoted ^= c == '\'';
            if (c == ';' && !quoted) {
                readStatement(statement.toString().trim());
                statement.setLength(0);
            } else {
                statement.append(c);
            }
        }
    }

    private void readStatement(String statement) {
        if (statement.isEmpty()) {
            return;
        }
        Matcher m = FORM.matcher(statement);
        if (!m.matches()) {
            throw new IllegalArgumentException(statement);
        }
        if (m.group(2).equals("types")) {
            readText(m.group(3));
            return;
        }
        int times = m.group(1) == null ? 1 : Integer.parseInt(m.group(1));
        for (int i = 0; i < times; i++) {
            String want = m.group(4) == null ? "" : m.group(4).replace("#", "" + i);
            boolean watched = i == 0 || i == times - 1;
            calls.add(new Call(m.group(2), numbers(m.group(3).replace("#", "" + i)), want, watched));
        }
    }

    private void readText(String quoted) {
        String text = quoted.substring(1, quoted.length() - 1);
        for (int i = 0; i < text.length(); i++) {
            calls.add(new Call("type", new Object[] {(int) text.charAt(i)}, "", i == text.length() - 1));
        }
    }

    private static Object[] numbers(String list) {
        if (list.isBlank()) {
            return new Object[0];
        }
        String[] parts = list.split(",");
        Object[] args = new Object[parts.length];
        for (int i = 0; i < parts.length; i++) {
            args[i] = (int) number(parts[i].trim());
        }
        return args;
    }

    private static long number(String s) {
        switch (s) {
            case "max":
                return Integer.MAX_VALUE;
            case "min":
                return Integer.MIN_VALUE;
            case "NONE":
                return -1;
            default:
                break;
        }
        int plus = s.indexOf('+');
        if (plus > 0) {
            return number(s.substring(0, plus)) + number(s.substring(plus + 1));
        }
        int error = ERRORS.indexOf(s);
        return error >= 0 ? CODES.get(error) : s.equals("TWIN") ? 1000 : Long.parseLong(s);
    }

    // ---- carrying it out

    private void answers() {
        OnceLetters x = new OnceLetters();
        for (int i = 0; i < calls.size(); i++) {
            Call call = calls.get(i);
            int[] errors = Look.errors(x);
            long got = call.on(x);
            String name = "call " + (i + 1) + ", " + call;
            if (call.want.isEmpty()) {
                due.holds(name + " succeeds (it answered " + got + ")", got >= 0);
            } else {
                due.due(name, got, number(call.want));
            }
            counted(name, call, got, errors, Look.errors(x));
            if (call.watched) {
                changes(i, got);
            }
        }
    }

    /** The object behind the first calls of the run. */
    private OnceLetters behind(int count) {
        OnceLetters x = new OnceLetters();
        for (int i = 0; i < count; i++) {
            calls.get(i).on(x);
        }
        return x;
    }

    private static int errorOf(Call call, long got) {
        boolean other = call.name.equals("asked") || call.name.equals("digest") || call.name.equals("does");
        return other || got > 0 || got < -9 ? -1 : CODES.indexOf((int) got);
    }

    private void counted(String name, Call call, long got, int[] before, int[] after) {
        if (call.name.equals("does") && got >= 0) {
            return;
        }
        int error = errorOf(call, got);
        for (int i = 0; i < 5; i++) {
            due.due(name + ": " + ERRORS.get(i) + " counted", after[i] - before[i], i == error ? 1 : 0);
        }
    }

    private void changes(int i, long got) {
        Call call = calls.get(i);
        String name = "call " + (i + 1) + ", " + call;
        if (errorOf(call, got) >= 0) {
            keepsAll(name, i, true);
        } else if (LEAVES_STATE.contains(call.name) && got >= 0 && !(call.name.equals("sends") && got >= 1000)) {
            leavesState(name, i);
        } else if (call.name.equals("back")) {
            keepsText(name, behind(i + 1), behind(i));
        } else {
            keepsAll(name, i, !call.name.equals("type") && !call.name.equals("clear"));
        }
    }

    private void same(String name, List<String> got, List<String> want) {
        String difference = Look.difference(got, want);
        due.holds(name + " " + difference, difference.isEmpty());
    }

    private void keepsText(String name, OnceLetters after, OnceLetters before) {
        due.due(name + ": told(5)", after.told(5), before.told(5));
        due.due(name + ": asked()", after.asked(), before.asked());
    }

    /** The call changes nothing, but for the text if it is a call for texts. */
    private void keepsAll(String name, int i, boolean text) {
        OnceLetters after = behind(i + 1);
        OnceLetters before = behind(i);
        due.due(name + ": told(6)", after.told(6), before.told(6));
        due.due(name + ": asked()", after.asked(), before.asked());
        same(name + " changes", Look.state(after), Look.state(before));
        if (text) {
            due.due(name + ": told(5)", after.told(5), before.told(5));
            same(name + " changes the text:", Look.text(behind(i + 1)), Look.text(behind(i)));
        }
        same(name + " changes an ending:", Look.future(behind(i + 1), true), Look.future(behind(i), true));
        same(name + " changes a hanging:", Look.future(behind(i + 1), false), Look.future(behind(i), false));
        samePast(name, Look.past(after), Look.past(before));
    }

    private void samePast(String name, List<List<String>> got, List<List<String>> want) {
        due.due(name + ": states", got.size(), want.size());
        for (int k = 0; k < Math.min(got.size(), want.size()); k++) {
            same(name + " changes state " + k + ":", got.get(k), want.get(k));
        }
    }

    private OnceLetters undone(int i) {
        OnceLetters x = behind(i + 1);
        x.back();
        return x;
    }

    /** The call leaves one state, to which back() returns in all that can be seen, now and later. */
    private void leavesState(String name, int i) {
        OnceLetters after = behind(i + 1);
        OnceLetters before = behind(i);
        int kept = Math.min(6, before.told(6) + 1);
        due.due(name + ": told(6)", after.told(6), kept);
        due.due(name + ": told(5)", after.told(5), before.told(5));
        if (!calls.get(i).name.equals("does")) {
            due.due(name + ": asked()", after.asked(), before.asked());
        }
        int[] errors = Look.errors(after);
        int asked = after.asked();
        due.due(name + ": back()", after.back(), kept - 1);
        due.due(name + ": told(6) behind back()", after.told(6), kept - 1);
        due.due(name + ": asked() behind back()", after.asked(), asked);
        due.due(name + ": told(5) behind back()", after.told(5), before.told(5));
        due.holds(name + ": errors behind back()", Arrays.equals(errors, Look.errors(after)));
        same(name + " is not undone:", Look.state(after), Look.state(before));
        same(name + " is not undone, text:", Look.text(undone(i)), Look.text(behind(i)));
        same(name + " is not undone, ending:", Look.future(undone(i), true), Look.future(behind(i), true));
        same(name + " is not undone, hanging:", Look.future(undone(i), false), Look.future(behind(i), false));
        List<List<String>> want = Look.past(before);
        for (int k = 0; k < want.size(); k++) {
            want.get(k).set(want.get(k).size() - 1, "back() = " + (kept - 2 - k));
        }
        samePast(name, Look.past(after), want.subList(0, kept - 1));
    }
}
