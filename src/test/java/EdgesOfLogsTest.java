/** Boundaries of the description's part 'Partitions, messages, markers', sentence by sentence. */
public final class EdgesOfLogsTest {
    private static final Due D = new Due();
    private static final String PLACE = "partitions";

    public static void main(String[] args) {
        threePartitions();
        positions();
        fullOfMessages();
        fullLogAndTransactions();
        timeAtFirst();
        fourProducers();
        producerAtFirst();
        takesPartInNone();
        takesPartInAll();
        numbersAndValues();
        belongs();
        plainWhenIdle();
        messages();
        markers();
        reserve();
        reserveOfHanging();
        roomWithoutReserve();
        roomBesideAnOpenOne();
        roomOfAnOpenOne();
        roomBesideAnEndingOne();
        roomBesideOneThatEndsElsewhere();
        roomBesideAMarker();
        roomForMarkers();
        roomForMarkersOfHanging();
        D.end();
    }

    private static void threePartitions() {
        D.says(PLACE, "There are three partitions, 0 to 2.");
        D.run("""
            begins(0) = 0;
            sends(0, 0, 0, 0, 10) = 0; sends(0, 0, 2, 0, 12) = 0;
            sends(0, 0, -1, 0, 1) = BAD; sends(0, 0, 3, 0, 1) = BAD;
            sends(0, 0, min, 0, 1) = BAD; sends(0, 0, max, 0, 1) = BAD;
            part(0, 0) = 1; part(1, 0) = 0; part(2, 0) = 1;
            part(-1, 0) = BAD; part(3, 0) = BAD; part(min, 0) = BAD; part(max, 0) = BAD;
            entry(0, 0, 4) = 10; entry(2, 0, 4) = 12;
            entry(-1, 0, 4) = BAD; entry(3, 0, 4) = BAD; entry(min, 0, 4) = BAD; entry(max, 0, 4) = BAD;
            aborted(0, 0, 0) = NONE; aborted(2, 0, 0) = NONE;
            aborted(-1, 0, 0) = BAD; aborted(3, 0, 0) = BAD; aborted(min, 0, 0) = BAD; aborted(max, 0, 0) = BAD;
            reader(0, 0, 2) = 1; reader(0, 2, 2) = 1;
            reader(0, -1, 2) = BAD; reader(0, 3, 2) = BAD; reader(0, min, 2) = BAD; reader(0, max, 2) = BAD;
            reads(0, 0) = 10; reads(0, 2) = 12;
            reads(0, -1) = BAD; reads(0, 3) = BAD; reads(0, min) = BAD; reads(0, max) = BAD;
            opens(0, 0) = 1; carries(0, 0, 0, 0) = 1; carries(0, 0, 0, 2) = 1;
            carries(0, 0, 0, -1) = BAD; carries(0, 0, 0, 3) = BAD;
            carries(0, 0, 0, min) = BAD; carries(0, 0, 0, max) = BAD;
            told(0) = 28; all(4) = 2
            """);
    }

    private static void positions() {
        D.says(PLACE, "Each has a log, whose entries have the positions 0, 1, 2, ...");
        D.run("""
            entry(1, 0, 0) = BAD; entry(1, -1, 0) = BAD; // an empty log has no position
            begins(2) = 0; 3 * sends(2, 0, 1, #, 7) = #;
            entry(1, 0, 3) = 0; entry(1, 1, 3) = 1; entry(1, 2, 3) = 2;
            entry(1, -1, 3) = BAD; entry(1, 3, 3) = BAD; entry(1, 47, 3) = BAD; entry(1, 48, 3) = BAD;
            entry(1, min, 3) = BAD; entry(1, max, 3) = BAD; entry(0, 0, 3) = BAD;
            back() = 3; entry(1, 1, 3) = 1; entry(1, 2, 3) = BAD
            """);
    }

    private static void fullOfMessages() {
        D.says(PLACE, "it never has more than 48 entries");
        D.run("""
            begins(0) = 0; 47 * sends(0, 0, 1, #, #) = #; part(1, 0) = 47;
            sends(0, 0, 1, 47, 99) = 47; part(1, 0) = 48; all(4) = 48;
            sends(0, 0, 1, 48, 0) = FULL; part(1, 0) = 48; told(4) = 1;
            entry(1, 47, 4) = 99; entry(1, 48, 4) = BAD;
            sends(0, 0, 0, 0, 1) = 0; sends(0, 0, 2, 0, 1) = 0; // the other logs have room
            back() = 5; back() = 4; back() = 3; sends(0, 0, 1, 47, 5) = 47; sends(0, 0, 1, 48, 5) = FULL
            """);
    }

    private static void fullLogAndTransactions() {
        D.says(PLACE, "it never has more than 48 entries");
        D.run("""
            begins(0) = 0; begins(1) = 0; 48 * sends(0, 0, 2, #, 5) = #;
            opens(1, 0) = 1; part(2, 3) = 1; sends(1, 0, 2, 0, 5) = FULL; writer(1, 2) = 0;
            ends(1, 0, 1) = 0; ticks(20) = 0; part(2, 0) = 48; part(2, 1) = 48; part(2, 2) = 48
            """);
    }

    private static void timeAtFirst() {
        D.says(PLACE, "There is a time, 0 at first.");
        D.run("all(0) = 0; ticks(1) = 0; all(0) = 1; ticks(20) = 0; all(0) = 21; back() = 1; back() = 0; all(0) = 0");
    }

    private static void fourProducers() {
        D.says(PLACE, "There are four producers, 0 to 3.");
        D.run("""
            begins(-1) = BAD; begins(4) = BAD; begins(min) = BAD; begins(max) = BAD; begins(0) = 0; begins(3) = 0;
            opens(-1, 0) = BAD; opens(4, 0) = BAD; opens(min, 0) = BAD; opens(max, 0) = BAD;
            opens(0, 0) = 1; opens(3, 0) = 2;
            sends(-1, 0, 0, 0, 1) = BAD; sends(4, 0, 0, 0, 1) = BAD;
            sends(min, 0, 0, 0, 1) = BAD; sends(max, 0, 0, 0, 1) = BAD;
            sends(0, 0, 0, 0, 1) = 0; sends(3, 0, 0, 0, 1) = 1;
            carries(-1, 0, 0, 0) = BAD; carries(4, 0, 0, 0) = BAD;
            carries(min, 0, 0, 0) = BAD; carries(max, 0, 0, 0) = BAD;
            carries(0, 0, 0, 0) = 0; carries(3, 0, 0, 0) = 0;
            writer(-1, 0) = BAD; writer(4, 0) = BAD; writer(min, 0) = BAD; writer(max, 0) = BAD;
            writer(0, 1) = 1; writer(3, 1) = 1;
            ends(-1, 0, 1) = BAD; ends(4, 0, 1) = BAD; ends(min, 0, 1) = BAD; ends(max, 0, 1) = BAD;
            ends(0, 0, 1) = 1; ends(3, 0, 1) = 1; ticks(1) = 2; told(0) = 24
            """);
    }

    private static void producerAtFirst() {
        D.says(PLACE, "A producer has an epoch, -1 at first, and is idle (0), as at first");
        D.run("""
            4 * writer(#, 0) = -1; 4 * writer(#, 1) = 0; 4 * writer(#, 2) = 0; 4 * writer(#, 5) = NONE;
            // so no age is one that it could have
            opens(0, -1) = BAD; opens(0, 0) = BAD; sends(3, -1, 0, 0, 0) = BAD; sends(3, 0, 0, 0, 0) = BAD;
            ends(0, -1, 0) = BAD; ends(0, 0, 0) = BAD; carries(3, -1, 0, 0) = BAD; carries(3, 0, 0, 0) = BAD;
            ticks(20) = 0; 4 * writer(#, 0) = -1; 4 * begins(#) = 0; 4 * writer(#, 1) = 0
            """);
    }

    private static void takesPartInNone() {
        D.says(PLACE, "A transaction takes part in a set of partitions, in none when it is opened.");
        D.run("""
            begins(0) = 0; sends(0, 0, 0, 0, 5) = 0; // a plain message is no part of a transaction
            opens(0, 0) = 1; writer(0, 2) = 0; sends(0, 0, 1, 0, 5) = 0; writer(0, 2) = 2;
            ends(0, 0, 1) = 1; ticks(1) = 1; opens(0, 0) = 1; writer(0, 2) = 0; // none again
            sends(0, 0, 1, 1, 5) = 2; writer(0, 2) = 2; part(1, 1) = 2; ends(0, 0, 0) = 1; ticks(1) = 1;
            opens(0, 0) = 1; writer(0, 2) = 0; ends(0, 0, 1) = 0
            """);
    }

    private static void takesPartInAll() {
        D.says(PLACE, "A transaction takes part in a set of partitions, in none when it is opened.");
        D.run("""
            begins(3) = 0; opens(3, 0) = 1; sends(3, 0, 2, 0, 5) = 0; writer(3, 2) = 4; sends(3, 0, 2, 1, 5) = 1;
            writer(3, 2) = 4; sends(3, 0, 0, 0, 5) = 0; writer(3, 2) = 5; sends(3, 0, 1, 0, 5) = 0; writer(3, 2) = 7;
            ends(3, 0, 1) = 3; writer(3, 2) = 7; ticks(2) = 2; writer(3, 2) = 7; ticks(1) = 1; writer(3, 2) = 0
            """);
    }

    private static void numbersAndValues() {
        D.says(PLACE, "a number (0 to 99) and a value (0 to 99)");
        D.run("""
            begins(0) = 0; sends(0, 0, 0, -1, 0) = BAD; sends(0, 0, 0, 100, 0) = BAD;
            sends(0, 0, 0, min, 0) = BAD; sends(0, 0, 0, max, 0) = BAD; sends(0, 0, 0, 99, 0) = GAP;
            sends(0, 0, 0, 0, -1) = BAD; sends(0, 0, 0, 0, 100) = BAD;
            sends(0, 0, 0, 0, min) = BAD; sends(0, 0, 0, 0, max) = BAD; part(0, 0) = 0;
            sends(0, 0, 0, 0, 0) = 0; sends(0, 0, 0, 1, 99) = 1; entry(0, 0, 3) = 0; entry(0, 0, 4) = 0;
            entry(0, 1, 3) = 1; entry(0, 1, 4) = 99; reads(1, 0) = 0; reads(1, 0) = 99; told(0) = 8; told(3) = 1
            """);
    }

    private static void belongs() {
        D.says(PLACE, "It belongs to the transaction that the producer had open when it wrote it");
        D.run("""
            begins(0) = 0; opens(0, 0) = 1; sends(0, 0, 0, 0, 10) = 0; ends(0, 0, 0) = 1; ticks(1) = 1;
            opens(0, 0) = 1; sends(0, 0, 0, 1, 11) = 2; entry(0, 0, 5) = 3; entry(0, 2, 5) = 1;
            ends(0, 0, 1) = 1; entry(0, 2, 5) = 1; ticks(1) = 1; entry(0, 0, 5) = 3; entry(0, 2, 5) = 2;
            opens(0, 0) = 1; sends(0, 0, 0, 2, 12) = 4; begins(0) = 1; entry(0, 4, 5) = 1; ticks(1) = 1;
            entry(0, 0, 5) = 3; entry(0, 2, 5) = 2; entry(0, 4, 5) = 3; part(0, 2) = 1; part(0, 5) = 2
            """);
    }

    private static void plainWhenIdle() {
        D.says(PLACE, "if the producer was idle, it is a plain message");
        D.run("""
            begins(0) = 0; sends(0, 0, 0, 0, 10) = 0; entry(0, 0, 5) = 0;
            opens(0, 0) = 1; sends(0, 0, 0, 1, 11) = 1; entry(0, 0, 5) = 0; entry(0, 1, 5) = 1;
            ends(0, 0, 0) = 1; ticks(1) = 1; sends(0, 0, 0, 2, 12) = 3;
            entry(0, 0, 5) = 0; entry(0, 1, 5) = 3; entry(0, 2, 5) = NONE; entry(0, 3, 5) = 0; part(0, 2) = 2
            """);
    }

    private static void messages() {
        D.says(PLACE, "A message has a producer, the epoch of the producer when it wrote it");
        D.run("""
            100 * begins(3) = #; begins(0) = 0; sends(3, 99, 1, 0, 5) = 0; sends(0, 0, 1, 0, 5) = 1; begins(0) = 1;
            sends(0, 1, 1, 0, 5) = 2; entry(1, 0, 1) = 3; entry(1, 0, 2) = 99; entry(1, 1, 1) = 0; entry(1, 1, 2) = 0;
            entry(1, 2, 1) = 0; entry(1, 2, 2) = 1; 3 * entry(1, #, 0) = 0
            """);
    }

    private static void markers() {
        D.says(PLACE, "A marker has a producer, the epoch of the producer when the marker was written, "
            + "and is a commit marker or an abort marker.");
        D.run("""
            begins(2) = 0; opens(2, 0) = 1; sends(2, 0, 1, 0, 5) = 0; begins(2) = 1; ticks(1) = 1;
            entry(1, 0, 2) = 0; // the message has the epoch of before
            entry(1, 1, 0) = 1; entry(1, 1, 1) = 2; entry(1, 1, 2) = 1; entry(1, 1, 3) = NONE; entry(1, 1, 4) = 0;
            entry(1, 1, 5) = NONE; entry(1, 1, 6) = 0;
            opens(2, 1) = 1; sends(2, 1, 1, 0, 6) = 2; ends(2, 1, 1) = 1; ticks(1) = 1;
            entry(1, 3, 0) = 1; entry(1, 3, 1) = 2; entry(1, 3, 2) = 1; entry(1, 3, 3) = NONE; entry(1, 3, 4) = 1;
            entry(1, 3, 5) = NONE; entry(1, 3, 6) = 0; begins(2) = 2; entry(1, 1, 2) = 1; entry(1, 3, 2) = 1
            """);
    }

    private static void reserve() {
        D.says(PLACE, "The reserve of a partition is the number of open producers, plus the number of ending "
            + "producers whose transaction takes part in this partition and has no marker there yet.");
        D.run("""
            4 * begins(#) = 0; 3 * part(#, 3) = 0; 4 * opens(#, 0) = #+1; 3 * part(#, 3) = 4;
            sends(0, 0, 0, 0, 1) = 0; sends(0, 0, 2, 0, 1) = 0; 3 * part(#, 3) = 4;
            ends(0, 0, 1) = 2; part(0, 3) = 4; part(1, 3) = 3; part(2, 3) = 4;
            ticks(1) = 1; part(0, 3) = 3; part(1, 3) = 3; part(2, 3) = 4;
            ticks(1) = 1; 3 * part(#, 3) = 3;
            ends(1, 0, 1) = 0; 3 * part(#, 3) = 2;
            sends(2, 0, 1, 0, 1) = 0; begins(2) = 1; part(0, 3) = 1; part(1, 3) = 2; part(2, 3) = 1
            """);
    }

    private static void reserveOfHanging() {
        D.says(PLACE, "The reserve of a partition is the number of open producers, plus the number of ending "
            + "producers whose transaction takes part in this partition and has no marker there yet.");
        D.run("""
            begins(3) = 0; opens(3, 0) = 1; sends(3, 0, 1, 0, 1) = 0; ticks(4) = 0; 3 * part(#, 3) = 1;
            ticks(1) = 0; part(0, 3) = 0; part(1, 3) = 1; part(2, 3) = 0; ticks(1) = 1; 3 * part(#, 3) = 0
            """);
    }

    private static final String ROOM =
        "A message can be written only if the number of entries of the partition plus its reserve is less than 48.";

    private static void roomWithoutReserve() {
        D.says(PLACE, ROOM);
        D.run("begins(1) = 0; 47 * sends(1, 0, 0, #, 1) = #; sends(1, 0, 0, 47, 1) = 47; sends(1, 0, 0, 48, 1) = FULL");
    }

    private static void roomBesideAnOpenOne() {
        D.says(PLACE, ROOM);
        D.run("""
            begins(0) = 0; begins(1) = 0; 46 * sends(0, 0, 0, #, 0) = #; opens(1, 0) = 1;
            sends(0, 0, 0, 46, 0) = 46; sends(0, 0, 0, 47, 0) = FULL; sends(1, 0, 0, 0, 0) = FULL;
            ends(1, 0, 1) = 0; sends(0, 0, 0, 47, 0) = 47; sends(0, 0, 0, 48, 0) = FULL; told(4) = 3
            """);
        D.run("""
            4 * begins(#) = 0; 43 * sends(0, 0, 0, #, 0) = #; 4 * opens(#, 0) = #+1; sends(3, 0, 0, 0, 0) = 43;
            sends(3, 0, 0, 1, 0) = FULL; sends(0, 0, 0, 43, 0) = FULL; ends(1, 0, 0) = 0;
            sends(3, 0, 0, 1, 0) = 44; sends(0, 0, 0, 43, 0) = FULL; begins(2) = 1; sends(0, 0, 0, 43, 0) = 45;
            sends(3, 0, 0, 2, 0) = FULL
            """);
    }

    private static void roomOfAnOpenOne() {
        D.says(PLACE, ROOM);
        D.run("""
            begins(0) = 0; begins(1) = 0; opens(0, 0) = 1; 47 * sends(0, 0, 2, #, 1) = #;
            sends(0, 0, 2, 47, 1) = FULL; sends(1, 0, 2, 0, 1) = FULL; ends(0, 0, 1) = 1; part(2, 3) = 1;
            sends(1, 0, 2, 0, 1) = FULL; ticks(1) = 1; part(2, 0) = 48; part(2, 3) = 0; sends(1, 0, 2, 0, 1) = FULL;
            sends(0, 0, 2, 47, 1) = FULL; told(4) = 5
            """);
    }

    private static void roomBesideAnEndingOne() {
        D.says(PLACE, ROOM);
        D.run("""
            begins(0) = 0; begins(1) = 0; opens(0, 0) = 1; sends(0, 0, 1, 0, 5) = 0; ends(0, 0, 0) = 1;
            46 * sends(1, 0, 1, #, 1) = #+1; part(1, 0) = 47; sends(1, 0, 1, 46, 1) = FULL; ticks(1) = 1;
            part(1, 0) = 48; entry(1, 47, 0) = 1; sends(1, 0, 1, 46, 1) = FULL
            """);
    }

    private static void roomBesideOneThatEndsElsewhere() {
        D.says(PLACE, ROOM);
        D.run("""
            begins(0) = 0; begins(1) = 0; opens(0, 0) = 1; sends(0, 0, 1, 0, 5) = 0;
            47 * sends(1, 0, 0, #, 1) = #; sends(1, 0, 0, 47, 1) = FULL; // it is open, so it could still take part
            ends(0, 0, 0) = 1; sends(1, 0, 0, 47, 1) = 47; sends(1, 0, 0, 48, 1) = FULL
            """);
    }

    private static void roomBesideAMarker() {
        D.says(PLACE, ROOM);
        D.run("""
            begins(0) = 0; begins(1) = 0; opens(1, 0) = 1; sends(1, 0, 0, 0, 5) = 0; sends(1, 0, 1, 0, 5) = 0;
            45 * sends(0, 0, 0, #, 1) = #+1; ends(1, 0, 1) = 2; ticks(1) = 1; part(0, 0) = 47; writer(1, 1) = 2;
            part(0, 3) = 0; sends(0, 0, 0, 45, 1) = 47; sends(0, 0, 0, 46, 1) = FULL; ticks(1) = 1; part(1, 0) = 2
            """);
    }

    private static String brim(int part) {
        return "41 * sends(0, 0, " + part + ", #, 1) = #; sends(1, 0, " + part + ", 0, 2) = 41; sends(2, 0, " + part
            + ", 0, 3) = 42; sends(3, 0, " + part + ", 0, 4) = 43; sends(0, 0, " + part + ", 41, 1) = FULL; ";
    }

    private static void roomForMarkers() {
        D.says(PLACE, "(So there is always room for markers.)");
        D.run("4 * begins(#) = 0; 4 * opens(#, 0) = #+1; " + brim(0) + brim(1) + brim(2) + """
            4 * ends(#, 0, 1) = 3; all(7) = 12; 3 * sends(0, 0, #, 41, 1) = STATE;
            ticks(1) = 4; part(0, 0) = 48; ticks(1) = 4; part(1, 0) = 48; ticks(1) = 4; part(2, 0) = 48;
            all(4) = 144; all(5) = 12; all(6) = 132; all(7) = 0; 3 * sends(0, 0, #, 41, 1) = FULL
            """);
    }

    private static void roomForMarkersOfHanging() {
        D.says(PLACE, "(So there is always room for markers.)");
        D.run("4 * begins(#) = 0; 4 * opens(#, 0) = #+1; " + brim(0) + brim(1) + brim(2) + """
            ticks(20) = 12; 3 * part(#, 0) = 48; 3 * part(#, 2) = 0; 3 * part(#, 5) = 4; all(6) = 0;
            3 * sends(0, 1, #, 0, 1) = FULL
            """);
    }
}
