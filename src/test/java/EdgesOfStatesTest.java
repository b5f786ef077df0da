import java.math.BigInteger;

/** Boundaries of 'States' and 'Errors' and of promises 20 to 23, sentence by sentence. */
public final class EdgesOfStatesTest {
    private static final Due D = new Due();
    private static final String LEAVES = "Each successful call of begins(), opens(), sends(), ends(), carries(), ticks(), "
        + "limit(), reads(), rewinds() and does() leaves a state to which back() can return, also if it changed nothing";
    private static final String ERROR = "A call that returns an error changes nothing, except that it is counted, by told()";

    public static void main(String[] args) {
        eachLeavesAState();
        eachLeavesAStateThoughNothingChanged();
        othersLeaveNone();
        refusedLeaveNone();
        duplicateAndNoneLeaveNone();
        exceptTextAndCounts();
        lastSix();
        sixAfterBack();
        backToMarkers();
        backToCarried();
        backOfDoes();
        backNone();
        codes();
        firstErrorIsReturned();
        errorsChangeNothing();
        noneIsNoError();
        allRange();
        allNumbers();
        allOfFullLogs();
        toldRange();
        toldCounts();
        digestOfANewObject();
        digestOfEntries();
        digestChangesNothing();
        last512Calls();
        D.end();
    }

    private static final String START = "begins(0) = 0; begins(1) = 0; opens(1, 0) = 1; sends(0, 0, 0, 0, 5) = 0; told(6) = 4; ";

    private static void eachLeavesAState() {
        D.says("states", LEAVES);
        D.run(START + "begins(2) = 0; told(6) = 5; back() = 4; writer(2, 0) = -1");
        D.run(START + "begins(1) = 1; told(6) = 5; writer(1, 1) = 0; back() = 4; writer(1, 1) = 1; writer(1, 0) = 0");
        D.run(START + "opens(0, 0) = 2; told(6) = 5; back() = 4; writer(0, 1) = 0; all(2) = 1");
        D.run(START + "sends(1, 0, 0, 0, 6) = 1; told(6) = 5; back() = 4; part(0, 0) = 1; writer(1, 2) = 0; part(0, 1) = 1");
        D.run(START + "ends(1, 0, 1) = 0; told(6) = 5; back() = 4; writer(1, 1) = 1");
        D.run(START + "carries(1, 0, 0, 0) = 0; told(6) = 5; back() = 4; writer(1, 1) = 1");
        D.run(START + "ticks(5) = 0; told(6) = 5; writer(1, 0) = 1; back() = 4; all(0) = 0; writer(1, 0) = 0; writer(1, 5) = 0");
        D.run(START + "limit(9) = 5; told(6) = 5; back() = 4; all(1) = 5");
        D.run(START + "reads(1, 0) = 5; told(6) = 5; back() = 4; reader(1, 0, 0) = 0");
        D.run(START + "reads(1, 0) = 5; rewinds(1) = 1; told(6) = 6; back() = 5; reader(1, 0, 0) = 1");
        D.run(START + "types('b3;t3;'); does() = 2; told(6) = 5; back() = 4; writer(3, 0) = -1; all(0) = 0");
    }

    private static void eachLeavesAStateThoughNothingChanged() {
        D.says("states", LEAVES);
        D.run("limit(5) = 5; told(6) = 1; back() = 0; all(1) = 5; back() = STATE");
        D.run("rewinds(1) = 0; told(6) = 1; back() = 0; back() = STATE");
        D.run("types('b4;'); does() = 0; told(6) = 1; back() = 0; back() = STATE");
        D.run("begins(0) = 0; opens(0, 0) = 1; carries(0, 0, 1, 1) = 0; carries(0, 0, 1, 1) = 0; told(6) = 4; back() = 3; back() = 2");
    }

    private static void othersLeaveNone() {
        D.says("states", LEAVES);
        D.run("""
            begins(0) = 0; opens(0, 0) = 1; sends(0, 0, 0, 0, 5) = 0; ends(0, 0, 0) = 1; ticks(1) = 1; told(6) = 5;
            writer(0, 0) = 0; entry(0, 0, 0) = 0; part(0, 0) = 2; aborted(0, 0, 0) = 0; reader(0, 0, 0) = 0;
            type(98) = 1; clear() = 1; does() = -10; asked() = 0; all(0) = 1; told(6) = 5; back() = 4; told(6) = 4
            """);
        D.run("type(98) = 1; told(6) = 0; clear() = 1; told(6) = 0; does() = -10; told(6) = 0; asked() = 0; told(6) = 0; back() = STATE");
    }

    private static void refusedLeaveNone() {
        D.says("states", "Each successful call");
        D.run("""
            begins(4) = BAD; opens(0, 0) = BAD; sends(0, 0, 0, 0, 0) = BAD; ends(0, 0, 0) = BAD; carries(0, 0, 0, 0) = BAD;
            ticks(0) = BAD; limit(0) = BAD; reads(2, 0) = BAD; rewinds(2) = BAD; back() = STATE; told(6) = 0;
            begins(0) = 0; begins(0) = 1; told(6) = 2; opens(0, 0) = FENCED; sends(0, 0, 0, 0, 0) = FENCED;
            ends(0, 0, 0) = FENCED; carries(0, 0, 0, 0) = FENCED; ends(0, 1, 0) = STATE; carries(0, 1, 0, 0) = STATE;
            sends(0, 1, 0, 1, 0) = GAP; told(6) = 2
            """);
    }

    private static void duplicateAndNoneLeaveNone() {
        D.says("states", "(No state is left if sends() finds a duplicate or reads() returns NONE.)");
        D.run("""
            begins(0) = 0; sends(0, 0, 0, 0, 5) = 0; told(6) = 2; sends(0, 0, 0, 0, 5) = 1000; told(6) = 2;
            reads(0, 1) = NONE; told(6) = 2; back() = 1; part(0, 0) = 0; back() = 0; reads(0, 0) = NONE; told(6) = 0
            """);
    }

    private static void exceptTextAndCounts() {
        D.says("states", "everything as it was before the call, except the text, what asked() returns, "
            + "and the counts of errors");
        D.run("""
            begins(0) = 0; types('b1;b9;'); does() = 1; asked() = BAD; begins(9) = BAD; types('t1;'); told(5) = 9;
            back() = 1; told(5) = 9; asked() = BAD; told(0) = 2; writer(1, 0) = -1; back() = 0; told(5) = 9;
            asked() = BAD; told(0) = 2; back() = STATE; told(2) = 1; does() = 2; asked() = 0; all(0) = 1
            """);
        D.run("types('b1;'); begins(0) = 0; clear() = 3; back() = 0; told(5) = 0; does() = -10");
    }

    private static void lastSix() {
        D.says("states", "The last 6 states are kept.");
        D.run("""
            5 * limit(#+1); told(6) = 5; limit(6) = 5; told(6) = 6; limit(7) = 6; told(6) = 6; limit(8) = 7; told(6) = 6;
            back() = 5; all(1) = 7; back() = 4; all(1) = 6; back() = 3; all(1) = 5; back() = 2; all(1) = 4;
            back() = 1; all(1) = 3; back() = 0; all(1) = 2; back() = STATE; all(1) = 2
            """);
        D.run("6 * limit(#+1); 6 * back(); all(1) = 5; back() = STATE");
        D.run("7 * limit(#+1); 6 * back(); all(1) = 1; back() = STATE");
        D.run("20 * limit(#+1); told(6) = 6; 6 * back(); all(1) = 14; back() = STATE");
    }

    private static void sixAfterBack() {
        D.says("promise 21", "Restores the last state that is kept, and which is kept no longer then.");
        D.run("""
            8 * limit(#+1); back() = 5; back() = 4; all(1) = 6; limit(20) = 6; told(6) = 5; limit(19) = 20; told(6) = 6;
            limit(18) = 19; told(6) = 6; back() = 5; all(1) = 19; back() = 4; all(1) = 20; back() = 3; all(1) = 6;
            back() = 2; all(1) = 5; back() = 1; all(1) = 4; back() = 0; all(1) = 3; back() = STATE; all(1) = 3
            """);
    }

    private static void backToMarkers() {
        D.says("promise 21", "Restores the last state that is kept");
        D.run("""
            begins(0) = 0; opens(0, 0) = 1; 3 * sends(0, 0, #, 0, 5) = 0; ends(0, 0, 1) = 3; ticks(2) = 2; back() = 5;
            writer(0, 3) = 3; all(5) = 0; 3 * entry(#, 0, 5) = 1; ticks(1) = 1; back() = 5; back() = 4; writer(0, 1) = 1;
            ticks(5) = 0; writer(0, 0) = 1; back() = 4; writer(0, 0) = 0; ends(0, 0, 0) = 3; ticks(3) = 3;
            3 * entry(#, 0, 5) = 3
            """);
    }

    private static void backToCarried() {
        D.says("promise 21", "Restores the last state that is kept");
        D.run("""
            begins(0) = 0; sends(0, 0, 0, 0, 5) = 0; opens(0, 0) = 1; reads(0, 0) = 5; carries(0, 0, 0, 0) = 1;
            back() = 4; ends(0, 0, 1) = 0; reader(0, 0, 1) = 0; // it carries nothing any more
            back() = 4; carries(0, 0, 0, 0) = 1; ends(0, 0, 1) = 0; reader(0, 0, 1) = 1; back() = 5;
            reader(0, 0, 1) = 0; ends(0, 0, 1) = 0; reader(0, 0, 1) = 1 // it carries it again
            """);
    }

    private static void backOfDoes() {
        D.says("promise 21", "Returns how many states are still kept; STATE if there is none.");
        D.run("""
            types('b0;o0 0;s0 0 0 0 5;e0 0 1;t1;r0 0;'); does() = 6; told(6) = 1; back() = 0; told(6) = 0;
            writer(0, 0) = -1; all(4) = 0; all(0) = 0; reader(0, 0, 0) = 0; does() = 6; does() = 2; told(6) = 2;
            back() = 1; all(4) = 2; writer(0, 0) = 0; back() = 0; all(4) = 0
            """);
    }

    private static void backNone() {
        D.says("promise 21", "STATE if there is none.");
        D.run("back() = STATE; told(2) = 1; begins(0) = 0; back() = 0; back() = STATE; back() = STATE; told(2) = 3; told(6) = 0");
    }

    private static void codes() {
        D.says("errors", "BAD (-2): an argument is out of range, or there is no such producer, partition or consumer.");
        D.run("ticks(21) = -2; begins(4) = -2; part(3, 0) = -2; rewinds(2) = -2; told(0) = 4");
        D.says("errors", "FENCED (-6): the epoch that is given is lower than that of the producer.");
        D.run("begins(0) = 0; opens(0, 0) = 1; begins(0) = 1; opens(0, 0) = -6; opens(0, 1) = 1; ends(0, 0, 0) = -6; told(1) = 2");
        D.says("errors", "STATE (-3), GAP (-7) and FULL (-4): as told at the methods.");
        D.run("back() = -3; begins(0) = 0; sends(0, 0, 0, 1, 5) = -7; 120 * type(0); type(0) = -4; told(2) = 1; told(3) = 1; told(4) = 1");
    }

    private static void firstErrorIsReturned() {
        D.says("errors", "Each method lists its errors in the order in which they are checked; "
            + "the first one that applies is returned.");
        D.run("""
            // producer 0: epoch 1, ending, with a full log; so every error applies but the first that is told
            begins(0) = 0; begins(0) = 1; opens(0, 1) = 1; 47 * sends(0, 1, 0, #, 5) = #; ends(0, 1, 1) = 1;
            sends(0, 0, 3, 50, 5) = BAD; sends(0, 0, 0, 50, 5) = FENCED; sends(0, 1, 0, 50, 5) = STATE;
            opens(0, 2) = BAD; opens(0, 0) = FENCED; opens(0, 1) = STATE;
            ends(0, 0, 2) = BAD; ends(0, 0, 1) = FENCED; ends(0, 1, 1) = STATE;
            carries(0, 0, 2, 0) = BAD; carries(0, 0, 1, 0) = FENCED; carries(0, 1, 1, 0) = STATE;
            ticks(1) = 1; sends(0, 1, 0, 46, 5) = 1046; sends(0, 1, 0, 50, 5) = GAP; sends(0, 1, 0, 47, 5) = FULL;
            told(0) = 4; told(1) = 4; told(2) = 4; told(3) = 1; told(4) = 1
            """);
    }

    private static void errorsChangeNothing() {
        D.says("errors", ERROR);
        // What is refused is called in a state in which there is much that could change
        String start = """
            3 * begins(#) = 0; begins(2) = 1; sends(0, 0, 0, 0, 5) = 0; sends(0, 0, 0, 1, 6) = 1; reads(0, 0) = 5;
            opens(1, 0) = 1; carries(1, 0, 0, 0) = 1; sends(1, 0, 1, 0, 7) = 0; opens(2, 1) = 2;
            sends(2, 1, 2, 0, 8) = 0; sends(2, 1, 0, 0, 8) = 2; ends(2, 1, 1) = 2; ticks(1) = 1; reads(0, 0) = 6;
            types('b0;t2;o0 1;c1 0 0 0;');
            """;
        String[] refused = {
            "begins(4) = BAD", "begins(2) = STATE", "opens(0, 1) = BAD", "opens(2, 0) = FENCED", "opens(1, 0) = STATE",
            "opens(2, 1) = STATE", "sends(1, 0, 3, 0, 5) = BAD", "sends(2, 0, 1, 0, 5) = FENCED",
            "sends(2, 1, 1, 0, 5) = STATE", "sends(1, 0, 2, 1, 5) = GAP", "sends(1, 0, 0, 1, 5) = GAP",
            "ends(1, 0, 2) = BAD", "ends(2, 0, 0) = FENCED", "ends(2, 1, 0) = STATE", "ends(0, 0, 0) = STATE",
            "carries(1, 0, 2, 0) = BAD", "carries(1, 0, 0, 3) = BAD", "carries(2, 0, 0, 0) = FENCED",
            "carries(2, 1, 0, 0) = STATE", "ticks(0) = BAD", "ticks(21) = BAD", "limit(0) = BAD", "limit(21) = BAD",
            "writer(4, 0) = BAD", "writer(0, 9) = BAD", "entry(3, 0, 0) = BAD", "entry(0, 9, 0) = BAD",
            "entry(0, 0, 7) = BAD", "part(3, 0) = BAD", "part(0, 6) = BAD", "aborted(0, -1, 0) = BAD",
            "reads(2, 0) = BAD", "reads(0, 3) = BAD", "rewinds(2) = BAD", "reader(2, 0, 0) = BAD",
            "reader(0, 0, 4) = BAD", "type(-1) = BAD", "type(128) = BAD", "all(8) = BAD", "told(7) = BAD",
        };
        for (String call : refused) {
            D.run(start + call);
        }
        D.run("99 * begins(3) = #; begins(3) = 99; opens(3, 99) = 1; sends(3, 99, 0, 0, 5) = 0; carries(3, 99, 0, 0) = 0; begins(3) = FULL");
        D.run("begins(0) = 0; opens(0, 0) = 1; 47 * sends(0, 0, 0, #, 5) = #; sends(0, 0, 0, 47, 6) = FULL");
        D.run("120 * type(59) = #+1; begins(0) = 0; type(98) = FULL");
        D.run("types('b0;'); does() = 1; back() = 0; back() = STATE");
    }

    private static void noneIsNoError() {
        D.says("errors", "NONE (-1) means that there is no such thing; it is not an error, "
            + "and it is returned only if no error applies.");
        D.run("""
            reads(0, 0) = NONE; aborted(0, 0, 0) = NONE; part(0, 4) = NONE; writer(0, 5) = NONE; reader(0, 0, 3) = NONE;
            5 * told(#) = 0; reads(0, 3) = BAD; aborted(0, 0, 3) = BAD; part(3, 4) = BAD; writer(4, 5) = BAD;
            reader(2, 0, 3) = BAD; told(0) = 5; types('r0 0;'); does() = 0; asked() = NONE; told(0) = 5
            """);
    }

    private static void allRange() {
        D.says("promise 20", "Returns the number; BAD if what is not 0 to 7.");
        D.run("all(-1) = BAD; all(8) = BAD; all(min) = BAD; all(max) = BAD; told(0) = 4; all(0) = 0; all(7) = 0; told(0) = 4");
    }

    private static void allNumbers() {
        D.says("promise 20", "0 for the time, 1 for the limit, 2 for the number of open producers, 3 for the number of "
            + "ending producers, 4 for the number of entries of all partitions, 5 for the number of markers among them, "
            + "6 for the number of visible messages in all partitions, 7 for the number of markers that are scheduled "
            + "and not written yet");
        D.run("""
            all(0) = 0; all(1) = 5; 6 * all(#+2) = 0; 4 * begins(#) = 0; limit(20) = 5; 4 * opens(#, 0) = #+1; all(2) = 4;
            3 * sends(0, 0, #, 0, 5) = 0; 3 * sends(1, 0, #, 0, 6) = 1; ticks(2) = 0; ends(0, 0, 1) = 3; ends(1, 0, 0) = 3;
            all(0) = 2; all(1) = 20; all(2) = 2; all(3) = 2; all(4) = 6; all(5) = 0; all(6) = 0; all(7) = 6;
            ticks(1) = 2; all(0) = 3; all(3) = 2; all(4) = 8; all(5) = 2; all(6) = 1; all(7) = 4;
            ticks(2) = 4; all(2) = 2; all(3) = 0; all(4) = 12; all(5) = 6; all(6) = 3; all(7) = 0;
            ends(2, 0, 1) = 0; begins(3) = 1; all(2) = 0; all(3) = 0
            """);
    }

    private static void allOfFullLogs() {
        D.says("promise 20", "6 for the number of visible messages in all partitions");
        D.run("begins(0) = 0; 48 * sends(0, 0, 0, #, 5); 48 * sends(0, 0, 1, #, 5); 48 * sends(0, 0, 2, #, 5); all(4) = 144; all(5) = 0; all(6) = 144");
    }

    private static void toldRange() {
        D.says("promise 22", "Returns the number; BAD if what is not 0 to 6.");
        D.run("told(-1) = BAD; told(7) = BAD; told(min) = BAD; told(max) = BAD; told(0) = 4; told(6) = 0; 4 * told(#+1) = 0");
    }

    private static void toldCounts() {
        D.says("promise 22", "0 for how many calls and orders returned BAD, 1 for FENCED, 2 for STATE, 3 for GAP, 4 for FULL; "
            + "5 for the length of the text; 6 for the number of states that are kept");
        D.run("""
            begins(9) = BAD; told(0) = 1; begins(0) = 0; begins(0) = 1; opens(0, 0) = FENCED; told(1) = 1;
            ends(0, 1, 1) = STATE; told(2) = 1; sends(0, 1, 0, 3, 3) = GAP; told(3) = 1;
            48 * sends(0, 1, 0, #, 5) = #; sends(0, 1, 0, 48, 5) = FULL; told(4) = 1; told(5) = 0; told(6) = 6;
            types('b9;o0 0;e0 1 1;s0 1 0 3 3;s0 1 0 48 5;'); told(5) = 38; does() = 0;
            5 * told(#) = 2; told(6) = 6; told(5) = 38; does() = 0; 5 * told(#) = 3; back() = 5; 5 * told(#) = 3
            """);
    }

    /** The document's rule, by numbers without bounds, brought to 64 bits at the end. */
    private static long hash(int... values) {
        BigInteger h = BigInteger.valueOf(2297);
        for (int v : values) {
            h = h.multiply(BigInteger.valueOf(31)).add(BigInteger.valueOf(v));
        }
        return h.longValue();
    }

    private static void digestOfANewObject() {
        D.says("promise 23", "h is 2297 at first; then, for each of these values v in order, h becomes 31 * h + v "
            + "(as a long, with overflow)");
        D.due("digest() of a new object", new OnceLetters().digest(), hash(
            0, 0, 0, 0, 0, 0, 0,
            0, 5, 0, 0, 0, 0, 0, 0,
            -1, 0, 0, 0, 0, -1, 0, 0, 0, -1, 0, 0, 0, 0, -1, 0, 0, 0,
            -1, 0, 0, 0, 0, -1, 0, 0, 0, -1, 0, 0, 0, 0, -1, 0, 0, 0,
            0, 0, 0, 0, -1, 0, 0, 0, 0, 0, -1, 0, 0, 0, 0, 0, -1, 0,
            0, 0, 0, -1, 0, 0, 0, -1, 0, 0, 0, -1,
            0, 0, 0, -1, 0, 0, 0, -1, 0, 0, 0, -1));
    }

    private static void digestOfEntries() {
        D.says("promise 23", "for each partition part() with what 0 to 5, then for each of its positions entry() with what "
            + "0 to 6, then for each of its aborted transactions aborted() with what 0 to 2");
        OnceLetters x = new OnceLetters();
        x.begins(1);
        x.sends(1, 0, 0, 0, 40);
        x.opens(1, 0);
        x.sends(1, 0, 0, 1, 41);
        x.sends(1, 0, 2, 0, 42);
        x.ends(1, 0, 0);
        x.ticks(1);
        x.reads(1, 0);
        x.type('b');
        x.begins(4);
        x.back();
        D.due("digest()", x.digest(), hash(
            1, 0, 0, 0, 0, 1, 5,
            1, 5, 0, 1, 4, 1, 1, 1,
            -1, 0, 0, 0, 0, -1, 0, 0, 0, 0, 2, 5, 1, 0, -1, 2, 0, 1,
            -1, 0, 0, 0, 0, -1, 0, 0, 0, -1, 0, 0, 0, 0, -1, 0, 0, 0,
            3, 3, 1, 0, -1, 1,
            0, 1, 0, 0, 40, 0, 1,
            0, 1, 0, 1, 41, 3, 0,
            1, 1, 0, -1, 0, -1, 0,
            1, 1, 2,
            0, 0, 0, 0, -1, 0,
            1, 0, 0, 1, 1, 0,
            0, 1, 0, 0, 42, 1, 0,
            0, 0, 1, 0, 0, 0, 0, -1, 0, 0, 0, -1,
            0, 0, 1, 0, 0, 0, 0, -1, 0, 0, 0, -1));
    }

    private static void digestChangesNothing() {
        D.says("promise 23", "Computes a hash");
        OnceLetters x = new OnceLetters();
        OnceLetters y = new OnceLetters();
        for (int i = 0; i < 48; i++) {
            x.begins(i % 4);
            y.begins(i % 4);
            x.sends(i % 4, i / 4, i % 3, 0, i);
            y.sends(i % 4, i / 4, i % 3, 0, i);
            long h = x.digest();
            D.due("digest() twice", x.digest(), h);
            D.due("digest() of another object", y.digest(), h);
            D.due("told(6)", x.told(6), y.told(6));
        }
        D.due("told(0)", x.told(0), 0);
    }

    private static void last512Calls() {
        D.says("what it is", "An object is used for at most 512 calls after it has been made");
        OnceLetters x = new OnceLetters();
        for (int i = 1; i <= 511; i++) {
            D.due("ticks(20)", x.ticks(20), 0);
        }
        D.due("the 512th call, all(0)", x.all(0), 511 * 20);
        OnceLetters y = new OnceLetters();
        for (int i = 1; i <= 511; i++) {
            D.due("told(7)", y.told(7), -2);
        }
        D.due("the 512th call, told(0)", y.told(0), 511);
        OnceLetters z = new OnceLetters();
        for (int i = 1; i <= 511; i++) {
            D.due("limit", z.limit(1 + i % 20), i == 1 ? 5 : 1 + (i - 1) % 20);
        }
        D.due("the 512th call, told(6)", z.told(6), 6);
    }
}
