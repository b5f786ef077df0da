/** Boundaries of 'What consumers see' and of promises 10 to 15, sentence by sentence. */
public final class EdgesOfReadersTest {
    private static final Due D = new Due();
    private static final String PLACE = "consumers";
    private static final String STABLE = "The stable position of a partition is the smallest first position there of all "
        + "transactions that are not finished, take part in the partition and have no marker there yet; "
        + "if there is none, it is the number of its entries.";
    private static final String VISIBLE = "A message is visible if its position is below the stable position of its "
        + "partition, and it is plain or its transaction has a commit marker there.";
    private static final String ABORTED = "The aborted transactions of a partition are those that have an abort marker "
        + "there, ordered by their first positions there.";

    public static void main(String[] args) {
        firstPosition();
        stableOfNone();
        stableOfOne();
        stableOfSeveral();
        stableOfAFullLog();
        visibleBelowStable();
        visibleThereAlone();
        visibleOfAbort();
        abortedHaveMarkers();
        abortedInOrder();
        abortedBehindBack();
        twoConsumers();
        entryRange();
        entryProperties();
        entryFate();
        entryVisible();
        partRange();
        partProperties();
        abortedRange();
        abortedProperties();
        abortedNone();
        readsFirst();
        readsPast();
        readsNone();
        readsBad();
        rewindsReturns();
        rewindsAll();
        rewindsBad();
        readerRange();
        readerProperties();
        D.end();
    }

    private static void firstPosition() {
        D.says(PLACE, "The first position of a transaction in a partition is that of its first message there.");
        D.run("""
            begins(0) = 0; begins(1) = 0; 2 * sends(1, 0, 0, #, 9) = #; opens(0, 0) = 1; sends(1, 0, 0, 2, 9) = 2;
            sends(0, 0, 0, 0, 5) = 3; part(0, 1) = 3; sends(0, 0, 0, 1, 5) = 4; part(0, 1) = 3;
            sends(0, 0, 1, 0, 5) = 0; part(1, 1) = 0; ends(0, 0, 0) = 2; ticks(2) = 2;
            aborted(0, 0, 1) = 3; aborted(1, 0, 1) = 0; aborted(0, 0, 2) = 5; aborted(1, 0, 2) = 1
            """);
    }

    private static void stableOfNone() {
        D.says(PLACE, STABLE);
        D.run("""
            3 * part(#, 1) = 0; 3 * part(#, 4) = NONE; begins(0) = 0; sends(0, 0, 0, 0, 5) = 0; part(0, 1) = 1;
            opens(0, 0) = 1; part(0, 1) = 1; part(0, 4) = NONE; // open, but it takes no part
            sends(0, 0, 1, 0, 5) = 0; part(0, 1) = 1; part(0, 4) = NONE // it takes part in another one
            """);
    }

    private static void stableOfOne() {
        D.says(PLACE, STABLE);
        D.run("""
            begins(3) = 0; sends(3, 0, 0, 0, 5) = 0; opens(3, 0) = 1; sends(3, 0, 0, 1, 5) = 1; part(0, 1) = 1;
            part(0, 4) = 3; sends(3, 0, 0, 2, 5) = 2; sends(3, 0, 2, 0, 5) = 0; part(0, 1) = 1; part(2, 1) = 0;
            ends(3, 0, 1) = 2; part(0, 1) = 1; part(0, 4) = 3; // ending, and no marker yet
            ticks(1) = 1; part(0, 1) = 4; part(0, 4) = NONE; // not finished, but it has a marker there
            part(2, 1) = 0; part(2, 4) = 3; ticks(1) = 1; part(2, 1) = 2; part(2, 4) = NONE
            """);
    }

    private static void stableOfSeveral() {
        D.says(PLACE, STABLE);
        D.run("""
            4 * begins(#) = 0; opens(2, 0) = 1; opens(1, 0) = 2; opens(3, 0) = 3; sends(2, 0, 0, 0, 5) = 0;
            sends(0, 0, 0, 0, 5) = 1; sends(1, 0, 0, 0, 5) = 2; sends(3, 0, 0, 0, 5) = 3; part(0, 1) = 0;
            part(0, 4) = 2; ends(1, 0, 1) = 1; ticks(1) = 1; part(0, 1) = 0; part(0, 4) = 2; ends(2, 0, 0) = 1;
            ticks(1) = 1; part(0, 1) = 3; part(0, 4) = 3; opens(1, 0) = 2; sends(1, 0, 0, 1, 5) = 6; part(0, 1) = 3;
            ends(3, 0, 1) = 1; ticks(1) = 1; part(0, 1) = 6; part(0, 4) = 1; begins(1) = 1; part(0, 1) = 6;
            ticks(1) = 1; part(0, 1) = 9; part(0, 4) = NONE
            """);
    }

    private static void stableOfAFullLog() {
        D.says(PLACE, STABLE);
        D.run("""
            begins(0) = 0; begins(1) = 0; 46 * sends(1, 0, 2, #, 9) = #; opens(0, 0) = 1; sends(0, 0, 2, 0, 5) = 46;
            part(2, 1) = 46; part(2, 4) = 0; ends(0, 0, 1) = 1; part(2, 1) = 46; ticks(1) = 1; part(2, 1) = 48;
            part(2, 4) = NONE; part(2, 2) = 47
            """);
    }

    private static void visibleBelowStable() {
        D.says(PLACE, VISIBLE);
        D.run("""
            3 * begins(#) = 0; sends(0, 0, 0, 0, 10) = 0; opens(1, 0) = 1; sends(1, 0, 0, 0, 11) = 1;
            sends(0, 0, 0, 1, 12) = 2; opens(2, 0) = 2; sends(2, 0, 0, 0, 13) = 3; ends(2, 0, 1) = 1; ticks(1) = 1;
            part(0, 1) = 1; entry(0, 0, 6) = 1; entry(0, 1, 6) = 0; entry(0, 2, 6) = 0; // plain, but not below
            entry(0, 3, 5) = 2; entry(0, 3, 6) = 0; // committed, but not below
            entry(0, 4, 6) = 0; part(0, 2) = 1; all(6) = 1; ends(1, 0, 1) = 1; part(0, 2) = 1; ticks(1) = 1;
            part(0, 1) = 6; 4 * entry(0, #, 6) = 1; entry(0, 4, 6) = 0; entry(0, 5, 6) = 0; part(0, 2) = 4; all(6) = 4
            """);
    }

    private static void visibleThereAlone() {
        D.says(PLACE, VISIBLE);
        D.run("""
            begins(0) = 0; opens(0, 0) = 1; sends(0, 0, 1, 0, 5) = 0; sends(0, 0, 2, 0, 6) = 0; ends(0, 0, 1) = 2;
            entry(1, 0, 6) = 0; ticks(1) = 1; entry(1, 0, 5) = 2; entry(1, 0, 6) = 1; entry(2, 0, 5) = 1;
            entry(2, 0, 6) = 0; reads(0, 1) = 5; reads(0, 2) = NONE; ticks(1) = 1; entry(2, 0, 6) = 1; reads(0, 2) = 6
            """);
    }

    private static void visibleOfAbort() {
        D.says(PLACE, VISIBLE);
        D.run("""
            begins(0) = 0; opens(0, 0) = 1; sends(0, 0, 1, 0, 5) = 0; ends(0, 0, 0) = 1; ticks(1) = 1;
            sends(0, 0, 1, 1, 6) = 2; entry(1, 0, 6) = 0; entry(1, 1, 6) = 0; entry(1, 2, 6) = 1; part(1, 2) = 1;
            reads(1, 1) = 6; reads(1, 1) = NONE
            """);
    }

    private static void abortedHaveMarkers() {
        D.says(PLACE, ABORTED);
        D.run("""
            begins(0) = 0; opens(0, 0) = 1; sends(0, 0, 1, 0, 5) = 0; sends(0, 0, 2, 0, 5) = 0; part(1, 5) = 0;
            ends(0, 0, 0) = 2; part(1, 5) = 0; aborted(1, 0, 0) = NONE; // no marker yet
            ticks(1) = 1; part(1, 5) = 1; aborted(1, 0, 0) = 0; part(2, 5) = 0; aborted(2, 0, 0) = NONE;
            part(0, 5) = 0; ticks(1) = 1; part(2, 5) = 1; aborted(2, 0, 0) = 0; opens(0, 0) = 1;
            sends(0, 0, 1, 1, 5) = 2; ends(0, 0, 1) = 1; ticks(1) = 1; part(1, 5) = 1; aborted(1, 1, 0) = NONE
            """);
    }

    private static void abortedInOrder() {
        D.says(PLACE, ABORTED);
        D.run("""
            3 * begins(#) = 0; 3 * opens(#, 0) = #+1; sends(1, 0, 0, 0, 5) = 0; sends(0, 0, 0, 0, 5) = 1;
            sends(2, 0, 0, 0, 5) = 2; sends(1, 0, 0, 1, 5) = 3; // another order in partition 1
            sends(2, 0, 1, 0, 5) = 0; sends(1, 0, 1, 0, 5) = 1; sends(0, 0, 1, 0, 5) = 2;
            ends(2, 0, 0) = 2; ticks(1) = 1; aborted(0, 0, 0) = 2; aborted(0, 0, 1) = 2; aborted(0, 0, 2) = 4;
            ends(0, 0, 0) = 2; ends(1, 0, 0) = 2; ticks(2) = 5; part(0, 5) = 3; part(1, 5) = 3;
            aborted(0, 0, 0) = 1; aborted(0, 1, 0) = 0; aborted(0, 2, 0) = 2; 3 * aborted(0, #, 1) = #;
            aborted(0, 0, 2) = 6; aborted(0, 1, 2) = 5; aborted(0, 2, 2) = 4;
            aborted(1, 0, 0) = 2; aborted(1, 1, 0) = 1; aborted(1, 2, 0) = 0; 3 * aborted(1, #, 1) = #;
            aborted(1, 0, 2) = 3; aborted(1, 1, 2) = 5; aborted(1, 2, 2) = 4; aborted(0, 3, 0) = NONE
            """);
    }

    private static void abortedBehindBack() {
        D.says(PLACE, ABORTED);
        D.run("""
            begins(0) = 0; opens(0, 0) = 1; sends(0, 0, 0, 0, 5) = 0; ends(0, 0, 0) = 1; ticks(1) = 1; part(0, 5) = 1;
            back() = 4; part(0, 5) = 0; aborted(0, 0, 1) = NONE; back() = 3; ends(0, 0, 1) = 1; ticks(1) = 1;
            part(0, 5) = 0; aborted(0, 0, 1) = NONE; part(0, 2) = 1
            """);
    }

    private static void twoConsumers() {
        D.says(PLACE, "There are two consumers, 0 and 1. Each has a position and a saved position in each partition, "
            + "both 0 at first.");
        D.run("""
            3 * reader(0, #, 0) = 0; 3 * reader(1, #, 0) = 0; 3 * reader(0, #, 1) = 0; 3 * reader(1, #, 1) = 0;
            begins(0) = 0; sends(0, 0, 0, 0, 5) = 0; opens(0, 0) = 1;
            reads(-1, 0) = BAD; reads(2, 0) = BAD; reads(min, 0) = BAD; reads(max, 0) = BAD;
            rewinds(-1) = BAD; rewinds(2) = BAD; rewinds(min) = BAD; rewinds(max) = BAD;
            reader(-1, 0, 0) = BAD; reader(2, 0, 0) = BAD; reader(min, 0, 0) = BAD; reader(max, 0, 0) = BAD;
            carries(0, 0, -1, 0) = BAD; carries(0, 0, 2, 0) = BAD; told(0) = 14;
            reads(1, 0) = 5; reader(0, 0, 0) = 0; reader(1, 0, 0) = 1; carries(0, 0, 0, 0) = 0; carries(0, 0, 1, 0) = 1;
            reads(0, 0) = 5; rewinds(0) = 1; rewinds(1) = 1
            """);
    }

    private static void entryRange() {
        D.says("promise 10", "Returns the property; BAD if there is no such partition or position "
            + "or what is not 0 to 6.");
        D.run("""
            begins(0) = 0; sends(0, 0, 1, 0, 5) = 0; entry(1, 0, 0) = 0; entry(1, 0, 6) = 1; entry(1, 0, -1) = BAD;
            entry(1, 0, 7) = BAD; entry(1, 0, min) = BAD; entry(1, 0, max) = BAD; entry(1, -1, 0) = BAD;
            entry(1, 1, 0) = BAD; entry(-1, 0, 0) = BAD; entry(3, 0, 0) = BAD; entry(0, 0, 0) = BAD;
            entry(3, -1, 7) = BAD; entry(max, max, max) = BAD; entry(min, min, min) = BAD; told(0) = 12
            """);
    }

    private static void entryProperties() {
        D.says("promise 10", "3 for its number (NONE for a marker); 4 for its value "
            + "(for a marker 1 if it is a commit marker, 0 if it is an abort marker)");
        D.run("""
            begins(1) = 0; begins(1) = 1; sends(1, 1, 0, 0, 8) = 0; opens(1, 1) = 1; sends(1, 1, 0, 1, 9) = 1;
            ends(1, 1, 1) = 1; ticks(1) = 1; opens(1, 1) = 1; sends(1, 1, 0, 2, 0) = 3; ends(1, 1, 0) = 1; ticks(1) = 1;
            entry(0, 0, 0) = 0; entry(0, 0, 1) = 1; entry(0, 0, 2) = 1; entry(0, 0, 3) = 0; entry(0, 0, 4) = 8;
            entry(0, 1, 0) = 0; entry(0, 1, 1) = 1; entry(0, 1, 2) = 1; entry(0, 1, 3) = 1; entry(0, 1, 4) = 9;
            entry(0, 2, 0) = 1; entry(0, 2, 1) = 1; entry(0, 2, 2) = 1; entry(0, 2, 3) = NONE; entry(0, 2, 4) = 1;
            entry(0, 4, 0) = 1; entry(0, 4, 3) = NONE; entry(0, 4, 4) = 0; told(0) = 0
            """);
    }

    private static void entryFate() {
        D.says("promise 10", "5 for 0 if it is a plain message, 1 if its transaction has no marker in this partition yet, "
            + "2 if it has a commit marker there, 3 if it has an abort marker there (NONE for a marker)");
        D.run("""
            begins(0) = 0; begins(1) = 0; sends(0, 0, 0, 0, 5) = 0; opens(0, 0) = 1; opens(1, 0) = 2;
            sends(0, 0, 0, 1, 5) = 1; sends(1, 0, 0, 0, 5) = 2; sends(0, 0, 1, 0, 5) = 0; sends(1, 0, 1, 0, 5) = 1;
            entry(0, 0, 5) = 0; entry(0, 1, 5) = 1; entry(0, 2, 5) = 1; ends(0, 0, 1) = 2; ends(1, 0, 0) = 2;
            entry(0, 1, 5) = 1; entry(0, 2, 5) = 1; ticks(1) = 2; entry(0, 0, 5) = 0; entry(0, 1, 5) = 2;
            entry(0, 2, 5) = 3; entry(0, 3, 5) = NONE; entry(0, 4, 5) = NONE; entry(1, 0, 5) = 1; entry(1, 1, 5) = 1;
            ticks(1) = 2; entry(1, 0, 5) = 2; entry(1, 1, 5) = 3
            """);
    }

    private static void entryVisible() {
        D.says("promise 10", "6 for 1 if it is a visible message, otherwise 0");
        D.run("""
            begins(0) = 0; begins(1) = 0; sends(0, 0, 2, 0, 5) = 0; entry(2, 0, 6) = 1; opens(1, 0) = 1;
            sends(1, 0, 2, 0, 6) = 1; sends(0, 0, 2, 1, 7) = 2; entry(2, 0, 6) = 1; entry(2, 1, 6) = 0;
            entry(2, 2, 6) = 0; ends(1, 0, 1) = 1; entry(2, 1, 6) = 0; entry(2, 2, 6) = 0; ticks(1) = 1;
            3 * entry(2, #, 6) = 1; entry(2, 3, 6) = 0; back() = 5; entry(2, 0, 6) = 1; entry(2, 1, 6) = 0
            """);
    }

    private static void partRange() {
        D.says("promise 11", "Returns the property; BAD if there is no such partition or what is not 0 to 5.");
        D.run("""
            part(0, 0) = 0; part(2, 5) = 0; part(0, -1) = BAD; part(0, 6) = BAD; part(0, min) = BAD; part(0, max) = BAD;
            part(-1, 4) = BAD; part(3, 4) = BAD; part(3, 6) = BAD; told(0) = 7; part(0, 4) = NONE; told(0) = 7
            """);
    }

    private static void partProperties() {
        D.says("promise 11", "4 for the producer of the transaction whose first position is the stable position "
            + "(NONE if there is no such transaction)");
        D.run("""
            begins(0) = 0; begins(3) = 0; opens(3, 0) = 1; sends(3, 0, 1, 0, 5) = 0; sends(0, 0, 1, 0, 5) = 1;
            part(1, 0) = 2; part(1, 1) = 0; part(1, 2) = 0; part(1, 3) = 1; part(1, 4) = 3; part(1, 5) = 0;
            part(0, 4) = NONE; ends(3, 0, 0) = 1; part(1, 4) = 3; ticks(1) = 1; part(1, 0) = 3; part(1, 1) = 3;
            part(1, 2) = 1; part(1, 3) = 0; part(1, 4) = NONE; part(1, 5) = 1
            """);
    }

    private static void abortedRange() {
        D.says("promise 12", "BAD if there is no such partition, k is negative or what is not 0 to 2.");
        D.run("""
            begins(2) = 0; opens(2, 0) = 1; sends(2, 0, 1, 0, 5) = 0; ends(2, 0, 0) = 1; ticks(1) = 1;
            aborted(1, 0, 0) = 2; aborted(1, 0, 1) = 0; aborted(1, 0, 2) = 1; aborted(1, 0, -1) = BAD;
            aborted(1, 0, 3) = BAD; aborted(1, 0, min) = BAD; aborted(1, 0, max) = BAD; aborted(1, -1, 0) = BAD;
            aborted(1, min, 0) = BAD; aborted(-1, 0, 0) = BAD; aborted(3, 0, 0) = BAD;
            aborted(1, 1, 3) = BAD; aborted(3, 1, 0) = BAD; aborted(0, 0, -1) = BAD; // BAD, not NONE
            told(0) = 11
            """);
    }

    private static void abortedProperties() {
        D.says("promise 12", "0 for its producer, 1 for its first position, 2 for the position of its marker");
        D.run("""
            begins(0) = 0; begins(3) = 0; 45 * sends(0, 0, 2, #, 5) = #; opens(3, 0) = 1; sends(3, 0, 2, 0, 5) = 45;
            sends(0, 0, 2, 45, 5) = 46; ends(3, 0, 0) = 1; ticks(1) = 1; part(2, 0) = 48; part(2, 5) = 1;
            aborted(2, 0, 0) = 3; aborted(2, 0, 1) = 45; aborted(2, 0, 2) = 47; aborted(2, 1, 0) = NONE
            """);
    }

    private static void abortedNone() {
        D.says("promise 12", "NONE if there are not so many");
        D.run("""
            3 * aborted(#, 0, 0) = NONE; begins(2) = 0; opens(2, 0) = 1; sends(2, 0, 1, 0, 5) = 0; begins(2) = 1;
            aborted(1, 0, 0) = NONE; ticks(1) = 1; aborted(1, 0, 0) = 2; aborted(1, 1, 0) = NONE;
            aborted(1, max, 2) = NONE; aborted(0, 0, 0) = NONE; opens(2, 1) = 1; sends(2, 1, 1, 0, 5) = 2;
            begins(2) = 2; ticks(1) = 1; aborted(1, 1, 0) = 2; aborted(1, 1, 1) = 2; aborted(1, 1, 2) = 3;
            aborted(1, 2, 0) = NONE; told(0) = 0
            """);
    }

    private static void readsFirst() {
        D.says("promise 13", "Lets a consumer read the first visible message at its position in a partition or behind it. "
            + "Its position becomes the one behind this message.");
        D.run("""
            begins(0) = 0; 2 * sends(0, 0, 1, #, #+40) = #; reads(1, 1) = 40; reader(1, 1, 0) = 1; reads(1, 1) = 41;
            reader(1, 1, 0) = 2; reader(0, 1, 0) = 0; reader(1, 0, 0) = 0; reader(1, 1, 1) = 0; reads(0, 1) = 40
            """);
    }

    private static void readsPast() {
        D.says("promise 13", "Lets a consumer read the first visible message at its position in a partition or behind it.");
        D.run("""
            begins(0) = 0; begins(1) = 0; opens(0, 0) = 1; 3 * sends(0, 0, 0, #, 5) = #; ends(0, 0, 0) = 1;
            ticks(1) = 1; sends(1, 0, 0, 0, 77) = 4; reads(0, 0) = 77; reader(0, 0, 0) = 5; // past three and a marker
            reads(0, 0) = NONE; reader(0, 0, 0) = 5; sends(1, 0, 0, 1, 78) = 5; reads(0, 0) = 78; reader(0, 0, 0) = 6
            """);
    }

    private static void readsNone() {
        D.says("promise 13", "NONE if there is none (nothing changes then)");
        D.run("""
            reads(0, 0) = NONE; told(6) = 0; begins(0) = 0; opens(0, 0) = 1; sends(0, 0, 0, 0, 5) = 0;
            reads(0, 0) = NONE; reader(0, 0, 0) = 0; ends(0, 0, 0) = 1; reads(0, 0) = NONE; ticks(1) = 1;
            reads(0, 0) = NONE; reader(0, 0, 0) = 0; told(6) = 5; told(0) = 0
            """);
        D.run("""
            begins(0) = 0; 48 * sends(0, 0, 0, #, #) = #; 48 * reads(0, 0) = #; reader(0, 0, 0) = 48;
            reads(0, 0) = NONE; reader(0, 0, 0) = 48; reader(0, 0, 2) = 0; reader(0, 0, 3) = NONE; back() = 5;
            reads(0, 0) = 47; reads(0, 0) = NONE
            """);
    }

    private static void readsBad() {
        D.says("promise 13", "BAD if there is no such consumer or partition.");
        D.run("""
            reads(-1, 0) = BAD; reads(2, 0) = BAD; reads(0, -1) = BAD; reads(0, 3) = BAD; reads(2, 3) = BAD;
            reads(1, 2) = NONE; told(0) = 5; told(6) = 0
            """);
    }

    private static void rewindsReturns() {
        D.says("promise 14", "Returns in how many partitions its position is another one than before");
        D.run("""
            rewinds(0) = 0; begins(0) = 0; 3 * sends(0, 0, #, 0, 5) = 0; reads(0, 1) = 5; rewinds(0) = 1;
            reader(0, 1, 0) = 0; reads(0, 0) = 5; reads(0, 2) = 5; reads(1, 2) = 5; rewinds(0) = 2;
            3 * reads(0, #) = 5; rewinds(0) = 3; 3 * reader(0, #, 0) = 0; rewinds(0) = 0; reader(1, 2, 0) = 1;
            told(6) = 6; rewinds(1) = 1
            """);
        D.run("""
            begins(0) = 0; 2 * sends(0, 0, 1, #, 5) = #; opens(0, 0) = 1; reads(0, 1) = 5; carries(0, 0, 0, 1) = 1;
            rewinds(0) = 1; ends(0, 0, 1) = 0; reader(0, 1, 0) = 0; rewinds(0) = 1; reader(0, 1, 0) = 1; // forwards
            rewinds(0) = 0; reads(0, 1) = 5; rewinds(0) = 1; reader(0, 1, 0) = 1
            """);
    }

    private static void rewindsAll() {
        D.says("promise 14", "Sets the positions of a consumer in all partitions to its saved positions.");
        D.run("""
            begins(0) = 0; 3 * sends(0, 0, #, 0, 5) = 0; 3 * sends(0, 0, #, 1, 6) = 1; 3 * reads(1, #) = 5;
            opens(0, 0) = 1; carries(0, 0, 1, 0) = 1; carries(0, 0, 1, 2) = 1; ends(0, 0, 1) = 0; 3 * reads(1, #) = 6;
            3 * reads(0, #) = 5; rewinds(1) = 3; reader(1, 0, 0) = 1; reader(1, 1, 0) = 0; reader(1, 2, 0) = 1;
            reader(1, 0, 1) = 1; reader(1, 1, 1) = 0; reader(1, 2, 1) = 1; 3 * reader(0, #, 0) = 1; rewinds(1) = 0
            """);
    }

    private static void rewindsBad() {
        D.says("promise 14", "BAD if there is no such consumer.");
        D.run("begins(0) = 0; sends(0, 0, 0, 0, 5) = 0; reads(0, 0) = 5; rewinds(-1) = BAD; rewinds(2) = BAD; told(6) = 3");
    }

    private static void readerRange() {
        D.says("promise 15", "Returns the property; BAD if there is no such consumer or partition "
            + "or what is not 0 to 3.");
        D.run("""
            reader(0, 0, 0) = 0; reader(1, 2, 3) = NONE; reader(0, 0, -1) = BAD; reader(0, 0, 4) = BAD;
            reader(0, 0, min) = BAD; reader(0, 0, max) = BAD; reader(-1, 0, 0) = BAD; reader(2, 0, 0) = BAD;
            reader(0, -1, 0) = BAD; reader(0, 3, 0) = BAD; reader(2, 0, 3) = BAD; reader(0, 3, 3) = BAD; told(0) = 10
            """);
    }

    private static void readerProperties() {
        D.says("promise 15", "2 for the number of visible messages at its position or behind it, 3 for the position of the "
            + "first of these (NONE if there is none)");
        D.run("""
            begins(0) = 0; begins(1) = 0; reader(0, 0, 2) = 0; reader(0, 0, 3) = NONE; sends(0, 0, 0, 0, 5) = 0;
            opens(1, 0) = 1; sends(1, 0, 0, 0, 6) = 1; sends(0, 0, 0, 1, 7) = 2; reader(0, 0, 2) = 1;
            reader(0, 0, 3) = 0; reads(0, 0) = 5; reader(0, 0, 2) = 0; reader(0, 0, 3) = NONE; ends(1, 0, 0) = 1;
            ticks(1) = 1; reader(0, 0, 0) = 1; reader(0, 0, 2) = 1; reader(0, 0, 3) = 2; reader(1, 0, 2) = 2;
            reader(1, 0, 3) = 0; reads(0, 0) = 7; reader(0, 0, 2) = 0; reader(0, 0, 3) = NONE; told(0) = 0
            """);
    }
}
