/** Boundaries of 'The text' and of promises 16 to 19, sentence by sentence. */
public final class EdgesOfTextsTest {
    private static final Due D = new Due();
    private static final String PLACE = "the text";
    private static final String FAULT = "The fault of the text is the position (from 0) of the first byte that is not "
        + "allowed at its place when the text is read from left to right (also a third digit of a number)";
    private static final String EVERY = " b 1;o1 0 ;s1 0 2 0 77;e1 00 1; t 1;r 1 2;c 1 0 1 2;";

    public static void main(String[] args) {
        atMost120();
        typeRange();
        typeBadBeforeFull();
        clearing();
        oneOrMoreOrders();
        asManyAsFit();
        lettersOfOrders();
        countsOfNumbers();
        digits();
        blanks();
        blanksBetweenNumbers();
        faultPlaces();
        everyByteAtEveryPlace();
        everyBeginning();
        asTheMethods();
        rangesInOrders();
        doesWhatever();
        doesCounts();
        doesReturns();
        doesFault();
        doesTextStays();
        doesOneState();
        askedLatest();
        askedNone();
        D.end();
    }

    private static void atMost120() {
        D.says(PLACE, "The text has at most 120 bytes.");
        D.run("119 * type(32) = #+1; type(32) = 120; type(32) = FULL; told(5) = 120; told(4) = 1; clear() = 120; type(98) = 1");
    }

    private static void typeRange() {
        D.says("promise 16", "Returns the length of the text then; BAD if c is out of range; "
            + "FULL if there are 120 bytes.");
        D.run("""
            type(-1) = BAD; type(128) = BAD; type(min) = BAD; type(max) = BAD; told(5) = 0; type(0) = 1; type(127) = 2;
            told(5) = 2; told(0) = 4; told(6) = 0
            """);
    }

    private static void typeBadBeforeFull() {
        D.says("promise 16", "BAD if c is out of range; FULL if there are 120 bytes.");
        D.run("""
            120 * type(127) = #+1; type(-1) = BAD; type(128) = BAD; type(0) = FULL; type(127) = FULL; told(0) = 2;
            told(4) = 2; told(5) = 120; does() = -10
            """);
    }

    private static void clearing() {
        D.says("promise 17", "Returns the length that it had.");
        D.run("""
            clear() = 0; type(98) = 1; clear() = 1; clear() = 0; told(5) = 0; 120 * type(32) = #+1; clear() = 120;
            told(5) = 0; does() = -10; type(98) = 1; told(6) = 0
            """);
    }

    private static void oneOrMoreOrders() {
        D.says(PLACE, "It consists of one or more orders, each of which is a letter, numbers and ;");
        D.run("does() = -10; types('   '); does() = -13; types('b0'); does() = -15; type(59); does() = 1; told(5) = 6");
        D.run("types('b0;b1;'); does() = 2; type(59); does() = -16");
    }

    private static void asManyAsFit() {
        D.says(PLACE, "It consists of one or more orders, each of which is a letter, numbers and ;");
        D.run("types('" + "b2;".repeat(40) + "'); told(5) = 120; does() = 40; writer(2, 0) = 39; asked() = 39; back() = 0;"
            + "writer(2, 0) = -1");
        D.run("types('" + "s0 0 0 0 0;".repeat(10) + "b0;b0;b0;'); does() = 3; told(0) = 10; asked() = 2");
        D.run("types('" + "c3 0 1 2;".repeat(13) + "b3;'); told(5) = 120; does() = 1; told(0) = 13");
        D.run("types('" + " ".repeat(117) + "b3;'); told(5) = 120; does() = 1");
        D.run("types('b3;" + " ".repeat(117) + "'); told(5) = 120; does() = 1");
        D.run("types('b" + " ".repeat(117) + "3;'); told(5) = 120; does() = 1");
        D.run("types('" + " ".repeat(118) + "b3'); told(5) = 120; does() = -130; type(59) = FULL; does() = -130");
        D.run("types('" + " ".repeat(119) + ";'); does() = -129");
        D.run("types('" + " ".repeat(120) + "'); does() = -130");
    }

    private static void lettersOfOrders() {
        D.says(PLACE, "each of which is a letter, numbers and ;");
        String letters = "bosetrc";
        for (char c = 'a'; c <= 'z'; c++) {
            boolean known = letters.indexOf(c) >= 0;
            D.run("types('" + c + "'); does() = " + (known ? -11 : -10) + "; told(6) = 0");
            D.run("types('" + Character.toUpperCase(c) + "0;'); does() = -10; told(6) = 0");
        }
        D.run("types('bb0;'); does() = -11");
        D.run("types('b0b0;'); does() = -12");
        D.run("types('b0;b0'); does() = -15");
    }

    private static void countsOfNumbers() {
        D.says(PLACE, "s w a p n v ;  as sends(w, a, p, n, v)");
        String letters = "btorecs";
        int[] counts = {1, 1, 2, 2, 3, 4, 5};
        for (int i = 0; i < counts.length; i++) {
            for (int given = 0; given <= 6; given++) {
                String text = letters.charAt(i) + " 1".repeat(given);
                // A number too many is not allowed at its place, nor is ; with a number too few
                int fault = given > counts[i] ? 2 * counts[i] + 2 : 1 + 2 * given;
                String want = given == counts[i] ? "" : "= " + (-10 - fault);
                D.run("types('" + text + ";'); does() " + want);
            }
        }
    }

    private static void digits() {
        D.says(PLACE, "A number has one or two digits.");
        D.run("types('b1;'); does() = 1; writer(1, 0) = 0");
        D.run("types('b01;'); does() = 1; writer(1, 0) = 0");
        D.run("types('b001;'); does() = -13; told(6) = 0");
        D.run("types('t20;'); does() = 1; all(0) = 20");
        D.run("types('t09;'); does() = 1; all(0) = 9");
        D.run("types('t10;t1;'); does() = 2; all(0) = 11");
        D.run("types('t99;'); does() = 0; asked() = BAD");
        D.run("types('t100;'); does() = -13; told(0) = 0");
        D.run("types('s00 00 00 00 000;'); does() = -25");
        D.run("types('b/;'); does() = -11");
        D.run("types('b:;'); does() = -11");
        D.run("types('b1/;'); does() = -12");
        D.run("types('b1:;'); does() = -12");
        D.run("types('b-1;'); does() = -11");
        D.run("types('b+1;'); does() = -11");
        D.run("types('b;'); does() = -11");
    }

    private static void blanks() {
        D.says(PLACE, "Any number of blanks (byte 32) may stand anywhere except between the digits of a number");
        D.run("types('  b  1  ;  b  01  ;  '); does() = 2; writer(1, 0) = 1");
        D.run("types('b1;b1;'); does() = 2");
        D.run("types('t1 0;'); does() = -13; all(0) = 0");
        D.run("types('t 10;'); does() = 1; all(0) = 10");
        D.run("types('b1 '); does() = -13; types(';'); does() = 1");
        D.run("types('b1;'); type(9); does() = -13");
        D.run("types('b1;'); type(10); does() = -13");
        D.run("types('b1;'); type(0); does() = -13");
        D.run("type(31); types('b1;'); does() = -10");
        D.run("type(33); types('b1;'); does() = -10");
        D.run("types('b'); type(9); types('1;'); does() = -11");
    }

    private static void blanksBetweenNumbers() {
        D.says(PLACE, "at least one must stand between two numbers");
        D.run("begins(1) = 0; types('o1 0;'); does() = 1; writer(1, 1) = 1");
        D.run("begins(1) = 0; types('o1    0;'); does() = 1; writer(1, 1) = 1");
        D.run("begins(1) = 0; types('o10;'); does() = -13; told(0) = 0");
        D.run("begins(1) = 0; types('o010;'); does() = -13; told(0) = 0");
        D.run("begins(1) = 0; types('o01 0;'); does() = 1; writer(1, 1) = 1");
        D.run("begins(1) = 0; types('o01 00;'); does() = 1; writer(1, 1) = 1");
        D.run("begins(1) = 0; types('o1 000;'); does() = -15; told(0) = 0");
    }

    private static void faultPlaces() {
        D.says(PLACE, FAULT);
        D.run("types('x'); does() = -10");
        D.run("types('b0;x;'); does() = -13; writer(0, 0) = -1; told(6) = 0");
        D.run("types('b0;b000;xx'); does() = -16"); // the first of three
        D.run("types('b 0 0;'); does() = -14");
        D.run("types(';'); does() = -10");
        D.run("types('0'); does() = -10");
        D.says(PLACE, "it is the length of the text if the text ends within an order or contains none");
        D.run("does() = -10; types('b'); does() = -11; types('0'); does() = -12; types(' '); does() = -13");
        D.run("types('b0;s'); does() = -14; types('0 0 0 0 0'); does() = -23; types(';'); does() = 2; told(0) = 0");
    }

    private static int faultOf(String text) {
        Model m = new Model();
        for (int i = 0; i < text.length(); i++) {
            m.type(text.charAt(i));
        }
        return m.fault();
    }

    private static void same(String text) {
        OnceLetters x = new OnceLetters();
        for (int i = 0; i < text.length(); i++) {
            x.type(text.charAt(i));
        }
        int fault = faultOf(text);
        int got = x.does();
        D.due("does() of '" + text + "'", got < 0 ? -10 - got : -1, fault);
    }

    private static void everyByteAtEveryPlace() {
        D.says(PLACE, FAULT);
        for (int at = 0; at <= EVERY.length(); at++) {
            for (char c = 0; c < 128; c++) {
                same(EVERY.substring(0, at) + c + EVERY.substring(at));
                if (at < EVERY.length()) {
                    same(EVERY.substring(0, at) + c + EVERY.substring(at + 1));
                }
            }
        }
    }

    private static void everyBeginning() {
        D.says(PLACE, "it is the length of the text if the text ends within an order or contains none");
        for (int end = 0; end <= EVERY.length(); end++) {
            String text = EVERY.substring(0, end);
            boolean whole = text.trim().endsWith(";");
            D.run("types('" + text + "'); does() " + (whole ? "; told(6) = 1" : "= " + (-10 - end) + "; told(6) = 0"));
            same(text);
        }
    }

    private static void asTheMethods() {
        D.says(PLACE, "b w ;          as begins(w)");
        D.run("types('b0;b3;b3;'); does() = 3; asked() = 1; writer(0, 0) = 0; writer(3, 0) = 1; writer(1, 0) = -1");
        D.says(PLACE, "o w a ;        as opens(w, a)");
        D.run("begins(2) = 0; begins(2) = 1; types('o2 1;'); does() = 1; asked() = 1; writer(2, 1) = 1; writer(1, 1) = 0");
        D.run("100 * begins(2) = #; types('o2 99;'); does() = 1; writer(2, 1) = 1");
        D.says(PLACE, "s w a p n v ;  as sends(w, a, p, n, v)");
        D.run("""
            4 * begins(#) = 0; begins(3) = 1; types('s3 1 2 0 99;s3 1 2 1 0;'); does() = 2; asked() = 1;
            entry(2, 0, 1) = 3; entry(2, 0, 2) = 1; entry(2, 0, 3) = 0; entry(2, 0, 4) = 99; entry(2, 1, 3) = 1;
            entry(2, 1, 4) = 0
            """);
        D.says(PLACE, "e w a c ;      as ends(w, a, c)");
        D.run("""
            begins(3) = 0; begins(3) = 1; begins(3) = 2; opens(3, 2) = 1; sends(3, 2, 0, 0, 5) = 0; types('e3 2 1;');
            does() = 1; asked() = 1; writer(3, 4) = 1
            """);
        D.run("begins(3) = 0; opens(3, 0) = 1; sends(3, 0, 0, 0, 5) = 0; types('e3 0 0;'); does() = 1; writer(3, 4) = 0");
        D.says(PLACE, "t n ;          as ticks(n)");
        D.run("types('t20;t1;'); does() = 2; asked() = 0; all(0) = 21");
        D.says(PLACE, "r r p ;        as reads(r, p)");
        D.run("begins(0) = 0; sends(0, 0, 2, 0, 5) = 0; types('r1 2;'); does() = 1; asked() = 5; reader(1, 2, 0) = 1");
        D.says(PLACE, "c w a r p ;    as carries(w, a, r, p)");
        D.run("""
            3 * begins(#) = 0; begins(2) = 1; begins(2) = 2; begins(2) = 3; sends(0, 0, 1, 0, 5) = 0; reads(0, 1) = 5;
            opens(2, 3) = 1; types('c2 3 0 1;'); does() = 1; asked() = 1; ends(2, 3, 1) = 0; reader(0, 1, 1) = 1
            """);
    }

    private static void rangesInOrders() {
        D.says("promise 18", "Errors that they return are counted.");
        D.run("types('b3;b4;b99;'); does() = 1; told(0) = 2");
        D.run("types('t1;t20;t0;t00;t21;'); does() = 2; told(0) = 3; all(0) = 21");
        D.run("begins(0) = 0; types('s0 0 3 0 0;s0 0 2 0 0;s4 0 0 0 0;s0 1 0 0 0;'); does() = 1; told(0) = 3");
        D.run("begins(0) = 0; opens(0, 0) = 1; types('e0 0 2;e0 1 1;e4 0 1;e0 0 1;'); does() = 1; told(0) = 3");
        D.run("begins(0) = 0; opens(0, 0) = 1; types('c0 0 2 0;c0 0 0 3;c4 0 0 0;c0 1 0 0;c0 0 1 2;'); does() = 1; told(0) = 4");
        D.run("types('r2 0;r0 3;r1 2;'); does() = 0; told(0) = 2; asked() = NONE");
        D.run("begins(0) = 0; types('o4 0;o0 1;o1 0;o0 0;'); does() = 1; told(0) = 3; asked() = 1");
        D.run("begins(0) = 0; begins(0) = 1; types('o0 0;s0 0 0 0 0;e0 0 1;c0 0 0 0;'); does() = 0; told(1) = 4; asked() = FENCED");
        D.run("begins(0) = 0; types('e0 0 1;c0 0 0 0;o0 0;o0 0;'); does() = 1; told(2) = 3; asked() = STATE");
        D.run("begins(0) = 0; types('s0 0 0 1 0;s0 0 0 99 0;'); does() = 0; told(3) = 2; asked() = GAP");
        D.run("begins(0) = 0; 48 * sends(0, 0, 0, #, 5) = #; types('s0 0 0 48 0;'); does() = 0; told(4) = 1; asked() = FULL");
        D.run("100 * begins(0) = #; types('b0;'); does() = 0; told(4) = 1; asked() = FULL");
    }

    private static void doesWhatever() {
        D.says("promise 18", "Carries out the orders of the text, one after the other, whatever they return.");
        D.run("""
            types('b9;b0;t0;o0 0;o0 0;s0 0 0 5 5;s0 0 0 0 5;s0 0 0 0 5;r0 0;e0 0 1;t1;r0 0;'); does() = 7;
            asked() = 5; told(0) = 2; told(2) = 1; told(3) = 1; told(6) = 1; part(0, 0) = 2; reader(0, 0, 0) = 1
            """);
    }

    private static void doesCounts() {
        D.says("promise 18", "Errors that they return are counted.");
        D.run("""
            begins(4) = BAD; types('b4;b4;'); does() = 0; told(0) = 3; does() = 0; told(0) = 5; back() = 1; told(0) = 5;
            back() = 0; told(0) = 5; 4 * told(#+1) = 0
            """);
    }

    private static void doesReturns() {
        D.says("promise 18", "Returns how many of the orders returned 0 or more");
        D.run("types('b0;'); does() = 1; asked() = 0"); // 0 counts
        D.run("begins(0) = 0; sends(0, 0, 0, 0, 5) = 0; types('s0 0 0 0 5;'); does() = 1; asked() = 1000"); // a duplicate counts
        D.run("types('r0 0;'); does() = 0; asked() = NONE; 5 * told(#) = 0; told(6) = 1"); // NONE does not
        D.run("types('b7;'); does() = 0; asked() = BAD");
    }

    private static void doesFault() {
        D.says("promise 18", "-10 minus the fault if the text has a fault (then nothing is done, nothing is counted, "
            + "and no state is left)");
        D.run("""
            begins(0) = 0; types('b0;b9;t1;b'); does() = -20; writer(0, 0) = 0; all(0) = 0; 5 * told(#) = 0;
            told(6) = 1; asked() = 0; told(5) = 10; type(48) = 11; type(59) = 12; does() = 3; told(0) = 1; told(6) = 2
            """);
    }

    private static void doesTextStays() {
        D.says("promise 18", "The text stays.");
        D.run("types('b1;'); does() = 1; told(5) = 3; does() = 1; asked() = 1; types('b2;'); does() = 2; asked() = 0; writer(1, 0) = 2");
        D.run("types('b'); does() = -11; told(5) = 1; types('1;'); does() = 1; back() = 0; told(5) = 3; does() = 1; asked() = 0");
    }

    private static void doesOneState() {
        D.says("promise 18", "One state is left for back(), that before the first order, whatever the orders return.");
        D.run("begins(0) = 0; types('b0;b0;t1;'); does() = 3; told(6) = 2; back() = 1; writer(0, 0) = 0; all(0) = 0; back() = 0");
        D.run("types('b9;'); does() = 0; told(6) = 1; back() = 0; back() = STATE");
        D.run("types('r0 0;'); does() = 0; told(6) = 1; back() = 0");
        D.run("begins(0) = 0; sends(0, 0, 0, 0, 5) = 0; types('s0 0 0 0 5;'); does() = 1; told(6) = 3; back() = 2");
        D.run("""
            6 * limit(#+1); types('b0;b1;b2;b3;t1;b0;b1;b2;'); does() = 8; told(6) = 6; back() = 5; writer(0, 0) = -1;
            all(1) = 6; 5 * back(); all(1) = 1; back() = STATE
            """);
        D.run("types('b0;b0;'); does() = 2; begins(0) = 2; begins(0) = 3; told(6) = 3; back() = 2; writer(0, 0) = 2");
    }

    private static void askedLatest() {
        D.says("promise 19", "Returns what the last order returned in the latest call of does() without a fault.");
        D.run("""
            types('b0;b0;'); does() = 2; asked() = 1; types('x'); does() = -16; asked() = 1; clear() = 7; asked() = 1;
            does() = -10; asked() = 1; begins(0) = 2; asked() = 1; back() = 1; asked() = 1; back() = 0; asked() = 1;
            types('b9;'); does() = 0; asked() = BAD; told(0) = 1; types('r0 0;'); does() = 0; asked() = NONE
            """);
    }

    private static void askedNone() {
        D.says("promise 19", "0 if there was no such call.");
        D.run("asked() = 0; does() = -10; asked() = 0; types('b7'); does() = -12; asked() = 0; begins(7) = BAD; asked() = 0");
    }
}
