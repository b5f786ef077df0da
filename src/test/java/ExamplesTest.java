import java.util.regex.Matcher;
import java.util.regex.Pattern;

/** The three examples of the document, call by call, and once more as they stand in ../shared/DOC.md. */
public final class ExamplesTest {
    private static final Due D = new Due();

    public static void main(String[] args) {
        committed();
        hanging();
        orders();
        asTheyStand();
        D.end();
    }

    /** Run also checks what the document says of all calls: what each of them changes, and that back() undoes it. */
    private static void asTheyStand() {
        D.about("the examples of DOC.md");
        Matcher m = Pattern.compile("Examples: .*? 1\\. (.*?) 2\\. (.*?) 3\\. (.*?)\\. The constructor").matcher(D.document());
        D.holds("three examples are found", m.find());
        int[] calls = {16, 16, 16};
        for (int i = 0; i < calls.length; i++) {
            D.about("example " + (i + 1) + " of DOC.md");
            String example = m.group(i + 1).replaceAll("\\.$", "");
            String run = example.substring(example.indexOf(": ") + 2);
            D.due("its calls", run.split(";").length, calls[i]);
            D.due("its answers", run.split(" = ").length - 1, calls[i]);
            D.run(run);
        }
    }

    private static void committed() {
        D.about("example 1");
        OnceLetters x = new OnceLetters();
        D.due("begins(0)", x.begins(0), 0);
        D.due("opens(0, 0)", x.opens(0, 0), 1);
        D.due("sends(0, 0, 1, 0, 7)", x.sends(0, 0, 1, 0, 7), 0);
        D.due("sends(0, 0, 1, 0, 9)", x.sends(0, 0, 1, 0, 9), 1000);
        D.due("sends(0, 0, 1, 2, 9)", x.sends(0, 0, 1, 2, 9), -7);
        D.due("sends(0, 0, 2, 0, 8)", x.sends(0, 0, 2, 0, 8), 0);
        D.due("part(1, 1)", x.part(1, 1), 0);
        D.due("ends(0, 0, 1)", x.ends(0, 0, 1), 2);
        D.due("ticks(1)", x.ticks(1), 1);
        D.due("reads(0, 1)", x.reads(0, 1), 7);
        D.due("reads(0, 2)", x.reads(0, 2), -1);
        D.due("ticks(1)", x.ticks(1), 1);
        D.due("reads(0, 2)", x.reads(0, 2), 8);
        D.due("writer(0, 1)", x.writer(0, 1), 0);
        D.due("entry(1, 1, 4)", x.entry(1, 1, 4), 1);
        D.due("part(2, 3)", x.part(2, 3), 0);
    }

    private static void hanging() {
        D.about("example 2");
        OnceLetters x = new OnceLetters();
        D.due("begins(1)", x.begins(1), 0);
        D.due("opens(1, 0)", x.opens(1, 0), 1);
        D.due("sends(1, 0, 0, 0, 5)", x.sends(1, 0, 0, 0, 5), 0);
        D.due("ticks(5)", x.ticks(5), 0);
        D.due("writer(1, 0)", x.writer(1, 0), 1);
        D.due("writer(1, 3)", x.writer(1, 3), 1);
        D.due("ticks(1)", x.ticks(1), 1);
        D.due("aborted(0, 0, 2)", x.aborted(0, 0, 2), 1);
        D.due("reads(1, 0)", x.reads(1, 0), -1);
        D.due("sends(1, 0, 0, 1, 6)", x.sends(1, 0, 0, 1, 6), -6);
        D.due("sends(1, 1, 0, 0, 6)", x.sends(1, 1, 0, 0, 6), 2);
        D.due("reads(1, 0)", x.reads(1, 0), 6);
        D.due("back()", x.back(), 5);
        D.due("reader(1, 0, 0)", x.reader(1, 0, 0), 0);
        D.due("told(1)", x.told(1), 1);
        D.due("told(6)", x.told(6), 5);
    }

    private static void orders() {
        D.about("example 3");
        OnceLetters x = new OnceLetters();
        D.due("does()", x.does(), -10);
        D.due("type(98)", x.type(98), 1);
        D.due("type(32)", x.type(32), 2);
        D.due("type(50)", x.type(50), 3);
        D.due("does()", x.does(), -13);
        D.due("type(59)", x.type(59), 4);
        D.due("does()", x.does(), 1);
        D.due("asked()", x.asked(), 0);
        D.due("writer(2, 0)", x.writer(2, 0), 0);
        D.due("told(6)", x.told(6), 1);
        D.due("back()", x.back(), 0);
        D.due("writer(2, 0)", x.writer(2, 0), -1);
        D.due("limit(21)", x.limit(21), -2);
        D.due("opens(0, -1)", x.opens(0, -1), -2);
        D.due("told(0)", x.told(0), 2);
        D.due("all(1)", x.all(1), 5);
    }
}
