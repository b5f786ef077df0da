/** Boundaries of the description's part 'Sending' and of promise 4, sentence by sentence. */
public final class EdgesOfSendingTest {
    private static final Due D = new Due();
    private static final String PLACE = "sending";
    private static final String PROMISE = "promise 4";
    private static final String RECENT = "The recent messages of a producer in a partition are the last three messages "
        + "that it wrote there with its present epoch, or all if there are fewer.";

    public static void main(String[] args) {
        fewerThanThree();
        lastThree();
        recentBesideOthers();
        recentOfTheEpoch();
        recentOfAHangingOne();
        recentPastMarkers();
        recentBehindBack();
        duplicate();
        numberDue();
        numberDueOfAFullLog();
        takesPartThen();
        refusedTakesNoPart();
        twinOfTheFirstAndTheLast();
        badArguments();
        badBeforeAll();
        fencedBeforeState();
        fencedBeforeDuplicate();
        stateBeforeDuplicate();
        duplicateBeforeGapAndFull();
        gapBeforeFull();
        full();
        D.end();
    }

    private static void fewerThanThree() {
        D.says(PLACE, RECENT);
        D.run("""
            begins(0) = 0; sends(0, 0, 0, 1, 5) = GAP; sends(0, 0, 0, 0, 5) = 0; sends(0, 0, 0, 0, 6) = 1000;
            sends(0, 0, 0, 1, 5) = 1; sends(0, 0, 0, 0, 6) = 1000; sends(0, 0, 0, 1, 6) = 1001;
            entry(0, 0, 4) = 5; entry(0, 1, 4) = 5; part(0, 0) = 2
            """);
    }

    private static void lastThree() {
        D.says(PLACE, RECENT);
        D.run("""
            begins(0) = 0; 3 * sends(0, 0, 1, #, 5) = #; 3 * sends(0, 0, 1, #, 6) = #+1000;
            sends(0, 0, 1, 3, 5) = 3; sends(0, 0, 1, 0, 5) = GAP; // the fourth of the last
            sends(0, 0, 1, 1, 6) = 1001; sends(0, 0, 1, 2, 6) = 1002; sends(0, 0, 1, 3, 6) = 1003;
            sends(0, 0, 1, 4, 5) = 4; sends(0, 0, 1, 1, 6) = GAP; sends(0, 0, 1, 2, 6) = 1002; told(3) = 2
            """);
    }

    private static void recentBesideOthers() {
        D.says(PLACE, RECENT);
        D.run("""
            begins(0) = 0; begins(1) = 0; 2 * sends(0, 0, 1, #, 5) = #; 4 * sends(1, 0, 1, #, 6) = #+2;
            sends(0, 0, 1, 0, 5) = 1000; sends(0, 0, 1, 1, 5) = 1001; sends(0, 0, 1, 3, 5) = GAP;
            sends(1, 0, 1, 0, 5) = GAP; sends(1, 0, 1, 1, 5) = 1003; sends(1, 0, 1, 3, 5) = 1005;
            sends(0, 0, 0, 1, 5) = GAP; sends(0, 0, 0, 0, 5) = 0; sends(0, 0, 2, 1, 5) = GAP; // other partitions
            sends(0, 0, 0, 0, 5) = 1000; sends(0, 0, 1, 2, 5) = 6
            """);
    }

    private static void recentOfTheEpoch() {
        D.says(PLACE, RECENT);
        D.run("""
            begins(2) = 0; 2 * sends(2, 0, 0, #, 5) = #; begins(2) = 1;
            sends(2, 1, 0, 1, 6) = GAP; sends(2, 1, 0, 2, 6) = GAP; sends(2, 1, 0, 0, 6) = 2;
            sends(2, 1, 0, 0, 7) = 1002; sends(2, 1, 0, 1, 6) = 3; sends(2, 1, 0, 1, 7) = 1003;
            back() = 5; back() = 4; back() = 3; // the epoch of before, and what it wrote
            sends(2, 0, 0, 1, 6) = 1001; sends(2, 0, 0, 2, 6) = 2
            """);
    }

    private static void recentOfAHangingOne() {
        D.says(PLACE, RECENT);
        D.run("""
            begins(2) = 0; opens(2, 0) = 1; 2 * sends(2, 0, 0, #, 5) = #; ticks(6) = 1; writer(2, 0) = 1;
            sends(2, 1, 0, 1, 6) = GAP; sends(2, 1, 0, 0, 6) = 3; sends(2, 1, 0, 0, 6) = 1003
            """);
    }

    private static void recentPastMarkers() {
        D.says(PLACE, RECENT);
        D.run("""
            begins(0) = 0; sends(0, 0, 0, 0, 5) = 0; // plain
            opens(0, 0) = 1; sends(0, 0, 0, 0, 9) = 1000; sends(0, 0, 0, 1, 5) = 1; ends(0, 0, 0) = 1; ticks(1) = 1;
            sends(0, 0, 0, 1, 9) = 1001; // of an aborted transaction
            opens(0, 0) = 1; sends(0, 0, 0, 2, 5) = 3; ends(0, 0, 1) = 1; ticks(1) = 1;
            sends(0, 0, 0, 0, 9) = 1000; sends(0, 0, 0, 1, 9) = 1001; sends(0, 0, 0, 2, 9) = 1003;
            sends(0, 0, 0, 3, 5) = 5; sends(0, 0, 0, 0, 9) = GAP
            """);
    }

    private static void recentBehindBack() {
        D.says(PLACE, RECENT);
        D.run("""
            begins(0) = 0; 4 * sends(0, 0, 0, #, 5) = #; sends(0, 0, 0, 0, 6) = GAP; back() = 4;
            sends(0, 0, 0, 0, 6) = 1000; sends(0, 0, 0, 3, 7) = 3; entry(0, 3, 4) = 7
            """);
    }

    private static void duplicate() {
        D.says(PLACE, "A message with a number that one of them has is a duplicate of it.");
        D.run("""
            begins(0) = 0; opens(0, 0) = 1; sends(0, 0, 2, 0, 7) = 0; sends(0, 0, 2, 0, 7) = 1000;
            sends(0, 0, 2, 0, 8) = 1000; // with another value too
            entry(2, 0, 4) = 7; part(2, 0) = 1; told(3) = 0; told(6) = 3
            """);
    }

    private static void numberDue() {
        D.says(PLACE, "The number that is due is the number of the last one of them plus 1, or 0 if there is none.");
        D.run("""
            4 * writer(#, 6) = 0; begins(0) = 0; 3 * writer(0, #+6) = 0;
            sends(0, 0, 0, 1, 5) = GAP; sends(0, 0, 0, 99, 5) = GAP; sends(0, 0, 0, 0, 5) = 0;
            writer(0, 6) = 1; writer(0, 7) = 0; writer(0, 8) = 0; writer(1, 6) = 0;
            sends(0, 0, 0, 2, 5) = GAP; sends(0, 0, 0, 1, 5) = 1; writer(0, 6) = 2; sends(0, 0, 2, 0, 5) = 0;
            writer(0, 8) = 1; writer(0, 7) = 0; begins(0) = 1; 3 * writer(0, #+6) = 0;
            sends(0, 1, 0, 2, 5) = GAP; sends(0, 1, 0, 0, 5) = 2; writer(0, 6) = 1; told(3) = 4
            """);
    }

    private static void numberDueOfAFullLog() {
        D.says(PLACE, "The number that is due is the number of the last one of them plus 1, or 0 if there is none.");
        D.run("""
            begins(3) = 0; 48 * sends(3, 0, 1, #, 5) = #; writer(3, 7) = 48; sends(3, 0, 1, 49, 5) = GAP;
            sends(3, 0, 1, 48, 5) = FULL; sends(3, 0, 1, 47, 5) = 1047; sends(3, 0, 1, 45, 5) = 1045;
            sends(3, 0, 1, 44, 5) = GAP; begins(3) = 1; writer(3, 7) = 0
            """);
    }

    private static void takesPartThen() {
        D.says(PROMISE, "If the producer is open, its transaction takes part in this partition then, "
            + "and the message belongs to it.");
        D.run("""
            begins(1) = 0; sends(1, 0, 2, 0, 5) = 0; writer(1, 2) = 0; opens(1, 0) = 1; writer(1, 2) = 0;
            sends(1, 0, 2, 1, 5) = 1; writer(1, 2) = 4; part(2, 1) = 1; part(2, 4) = 1; entry(2, 1, 5) = 1;
            sends(1, 0, 2, 2, 5) = 2; writer(1, 2) = 4; part(2, 1) = 1; ends(1, 0, 1) = 1
            """);
    }

    private static void refusedTakesNoPart() {
        D.says(PROMISE, "and nothing changes");
        D.run("""
            begins(1) = 0; sends(1, 0, 2, 0, 5) = 0; opens(1, 0) = 1; sends(1, 0, 2, 0, 6) = 1000; writer(1, 2) = 0;
            part(2, 1) = 1; sends(1, 0, 0, 1, 5) = GAP; writer(1, 2) = 0; sends(1, 0, 3, 0, 5) = BAD;
            writer(1, 2) = 0; ends(1, 0, 1) = 0; told(6) = 4
            """);
        D.run("""
            begins(0) = 0; begins(1) = 0; 47 * sends(0, 0, 1, #, 1) = #; opens(1, 0) = 1; sends(1, 0, 1, 0, 5) = FULL;
            writer(1, 2) = 0; part(1, 1) = 47; ends(1, 0, 1) = 0; ticks(1) = 0
            """);
    }

    private static void twinOfTheFirstAndTheLast() {
        D.says(PROMISE, "TWIN (1000) plus the position of the message of which it is a duplicate, and nothing changes.");
        D.run("""
            begins(0) = 0; begins(1) = 0; sends(0, 0, 0, 0, 5) = 0; sends(0, 0, 0, 0, 5) = TWIN;
            46 * sends(1, 0, 0, #, 5) = #+1; sends(0, 0, 0, 1, 5) = 47; sends(0, 0, 0, 1, 5) = TWIN+47;
            sends(0, 0, 0, 0, 5) = TWIN; told(6) = 6; told(3) = 0; told(4) = 0
            """);
    }

    private static final String BAD = "BAD if there is no such producer or partition, age is negative or greater than "
        + "its epoch, or number or value is out of range";

    private static void badArguments() {
        D.says(PROMISE, BAD);
        D.run("""
            begins(0) = 0; begins(0) = 1; sends(0, 2, 0, 0, 0) = BAD; sends(0, max, 0, 0, 0) = BAD;
            sends(0, -1, 0, 0, 0) = BAD; sends(0, min, 0, 0, 0) = BAD; sends(1, 0, 0, 0, 0) = BAD;
            sends(1, -1, 0, 0, 0) = BAD; sends(0, 1, 3, 0, 0) = BAD; sends(0, 1, -1, 0, 0) = BAD;
            sends(0, 1, 0, 100, 0) = BAD; sends(0, 1, 0, -1, 0) = BAD; sends(0, 1, 0, 0, 100) = BAD;
            sends(0, 1, 0, 0, -1) = BAD; told(0) = 12; told(1) = 0; sends(0, 1, 0, 0, 0) = 0
            """);
    }

    private static void badBeforeAll() {
        D.says(PROMISE, BAD);
        // Producer 0 is ending, its epoch is 2, and the log of partition 0 is full
        String start = """
            begins(0); begins(0); begins(1); 46 * sends(1, 0, 0, #, 1) = #; opens(0, 1) = 1; sends(0, 1, 0, 0, 5) = 46;
            sends(0, 1, 1, 0, 5) = 0; begins(0) = 2; writer(0, 1) = 2;
            """;
        D.run(start + """
            // FENCED, STATE, and the duplicate or GAP or FULL apply as well
            sends(0, 1, 3, 0, 5) = BAD; sends(0, 1, -1, 0, 5) = BAD; sends(0, 1, 0, 100, 5) = BAD;
            sends(0, 1, 0, -1, 5) = BAD; sends(0, 1, 0, 0, 100) = BAD; sends(0, 1, 0, 0, -1) = BAD;
            sends(0, -1, 0, 0, 5) = BAD; sends(0, 3, 0, 0, 5) = BAD; sends(0, 2, 0, 0, 100) = BAD;
            // the producer is fenced, ending and without room
            sends(0, 0, 0, 0, 5) = FENCED; sends(0, 1, 0, 0, 5) = FENCED; sends(0, 2, 0, 0, 5) = STATE;
            ticks(1) = 1; sends(1, 0, 0, 45, 100) = BAD; sends(1, 0, 0, 44, -1) = BAD; // a duplicate
            sends(1, 0, 0, 99, 100) = BAD; sends(1, 0, 0, 46, 100) = BAD; sends(1, 0, 0, 46, 5) = FULL
            """);
    }

    private static void fencedBeforeState() {
        D.says(PROMISE, "FENCED if age is less than its epoch; STATE if it is ending");
        D.run("""
            begins(0) = 0; begins(0) = 1; opens(0, 1) = 1; sends(0, 1, 0, 0, 5) = 0; ends(0, 1, 1) = 1;
            sends(0, 0, 0, 1, 5) = FENCED; sends(0, 1, 0, 1, 5) = STATE; sends(0, 1, 1, 0, 5) = STATE;
            ticks(1) = 1; sends(0, 0, 0, 1, 5) = FENCED; sends(0, 1, 0, 1, 5) = 2; told(1) = 2; told(2) = 2
            """);
    }

    private static void fencedBeforeDuplicate() {
        D.says(PROMISE, "FENCED if age is less than its epoch");
        D.run("""
            begins(0) = 0; sends(0, 0, 0, 0, 5) = 0; sends(0, 0, 0, 0, 5) = 1000; begins(0) = 1;
            sends(0, 0, 0, 0, 5) = FENCED; sends(0, 0, 0, 1, 5) = FENCED; sends(0, 0, 0, 9, 5) = FENCED;
            47 * sends(0, 1, 0, #, 5) = #+1; sends(0, 0, 0, 47, 5) = FENCED; sends(0, 0, 0, 1, 5) = FENCED;
            sends(0, 1, 0, 47, 5) = FULL
            """);
    }

    private static void stateBeforeDuplicate() {
        D.says(PROMISE, "STATE if it is ending; then the duplicate");
        D.run("""
            begins(0) = 0; opens(0, 0) = 1; 47 * sends(0, 0, 0, #, 5) = #; ends(0, 0, 0) = 1;
            sends(0, 0, 0, 46, 5) = STATE; // a duplicate
            sends(0, 0, 0, 99, 5) = STATE; // a gap
            sends(0, 0, 0, 47, 5) = STATE; // without room
            ticks(1) = 1; sends(0, 0, 0, 46, 5) = 1046; sends(0, 0, 0, 99, 5) = GAP; sends(0, 0, 0, 47, 5) = FULL;
            told(2) = 3; told(3) = 1; told(4) = 1
            """);
    }

    private static void duplicateBeforeGapAndFull() {
        D.says(PROMISE, "then the duplicate; GAP if number is not the number that is due");
        D.run("""
            begins(0) = 0; 48 * sends(0, 0, 0, #, 5) = #; sends(0, 0, 0, 47, 5) = 1047; sends(0, 0, 0, 46, 5) = 1046;
            sends(0, 0, 0, 45, 5) = 1045; sends(0, 0, 0, 44, 5) = GAP; told(3) = 1; told(4) = 0
            """);
    }

    private static void gapBeforeFull() {
        D.says(PROMISE, "GAP if number is not the number that is due; FULL if there is no room for a message.");
        D.run("""
            begins(0) = 0; begins(1) = 0; 48 * sends(0, 0, 0, #, 5) = #; sends(0, 0, 0, 49, 5) = GAP;
            sends(0, 0, 0, 48, 5) = FULL; sends(1, 0, 0, 1, 5) = GAP; sends(1, 0, 0, 0, 5) = FULL;
            told(3) = 2; told(4) = 2
            """);
    }

    private static void full() {
        D.says(PROMISE, "FULL if there is no room for a message.");
        D.run("""
            begins(0) = 0; opens(0, 0) = 1; 46 * sends(0, 0, 0, #, 5) = #; sends(0, 0, 0, 46, 5) = 46;
            sends(0, 0, 0, 47, 5) = FULL; part(0, 0) = 47; told(4) = 1; sends(0, 0, 1, 0, 5) = 0
            """);
    }
}
