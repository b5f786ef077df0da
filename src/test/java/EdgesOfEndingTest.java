/** Boundaries of 'Ending transactions' and of promises 2, 3, 5 to 9, sentence by sentence. */
public final class EdgesOfEndingTest {
    private static final Due D = new Due();
    private static final String PLACE = "ending";
    private static final String SCHEDULE = "for the lowest of these partitions at time + 1, for the next one at "
        + "time + 2, for the third one at time + 3";
    private static final String FINISHED = "When its last marker has been written, or at once if it takes part in no "
        + "partition, the transaction is finished and its producer becomes idle.";
    private static final String SAVED = "When a transaction that was ended by commit is finished, then for each consumer "
        + "and partition whose position it carries, the saved position becomes the carried one "
        + "(the latest that was carried).";
    private static final String BEGINS = "When a producer begins, its epoch increases by 1; if it is open, "
        + "its transaction is ended by abort.";
    private static final String HANGS = "for each producer in ascending order, if it is open, and the time minus the time "
        + "at which its transaction was opened is at least the limit, its epoch increases by 1 and its transaction is "
        + "ended by abort";

    public static void main(String[] args) {
        becomesEnding();
        scheduledInEach();
        scheduleOfThree();
        scheduleOfTwo();
        scheduleOfOne();
        finishedAtOnce();
        finishedByTheLast();
        savedWhenFinished();
        savedOfAllConsumersAndPartitions();
        savedIsTheLatest();
        savedGoesBackToZero();
        notSavedByAbort();
        carriedOnceOnly();
        beginsWhenIdle();
        beginsWhenOpen();
        beginsAtTheTop();
        beginsWhenEndingAtTheTop();
        timeIncreases();
        markersInOrder();
        markersOfDifferentEnds();
        hangsAtTheLimit();
        hangsPastTheLimit();
        hangsWithinManyTicks();
        hangsAlone();
        hangsBeyond99();
        limitEdges();
        D.end();
    }

    private static void becomesEnding() {
        D.says(PLACE, "When a transaction is ended, by commit or by abort, its producer becomes ending.");
        D.run("""
            begins(0) = 0; begins(1) = 0; opens(0, 0) = 1; opens(1, 0) = 2; sends(0, 0, 0, 0, 5) = 0;
            sends(1, 0, 0, 0, 5) = 1; writer(0, 1) = 1; writer(0, 3) = 0; writer(0, 4) = 0; all(2) = 2; all(3) = 0;
            ends(0, 0, 1) = 1; writer(0, 1) = 2; writer(0, 3) = 1; writer(0, 4) = 1; writer(0, 5) = NONE;
            ends(1, 0, 0) = 1; writer(1, 1) = 2; writer(1, 3) = 1; writer(1, 4) = 0; all(2) = 0; all(3) = 2;
            all(7) = 2; ticks(1) = 2; writer(0, 1) = 0; writer(0, 4) = 0; writer(1, 1) = 0; all(3) = 0; all(7) = 0
            """);
    }

    private static void scheduledInEach() {
        D.says(PLACE, "In each partition in which it takes part a marker is scheduled");
        D.run("""
            begins(0) = 0; sends(0, 0, 1, 0, 4) = 0; opens(0, 0) = 1; sends(0, 0, 0, 0, 5) = 0; sends(0, 0, 0, 1, 5) = 1;
            sends(0, 0, 2, 0, 5) = 0; all(7) = 0; ends(0, 0, 0) = 2; all(7) = 2; writer(0, 3) = 2; // one for a partition
            ticks(20) = 2; part(0, 0) = 3; part(1, 0) = 1; part(2, 0) = 2; all(5) = 2; all(7) = 0
            """);
    }

    private static void scheduleOfThree() {
        D.says(PLACE, SCHEDULE);
        D.run("""
            begins(0) = 0; ticks(7) = 0; opens(0, 0) = 1; sends(0, 0, 2, 0, 5) = 0; sends(0, 0, 1, 0, 5) = 0;
            sends(0, 0, 0, 0, 5) = 0; ends(0, 0, 1) = 3; writer(0, 3) = 3; 3 * part(#, 0) = 1;
            ticks(1) = 1; part(0, 0) = 2; part(1, 0) = 1; part(2, 0) = 1; writer(0, 3) = 2;
            ticks(1) = 1; part(0, 0) = 2; part(1, 0) = 2; part(2, 0) = 1; writer(0, 3) = 1; writer(0, 1) = 2;
            ticks(1) = 1; part(2, 0) = 2; writer(0, 3) = 0; writer(0, 1) = 0; ticks(20) = 0; all(5) = 3
            """);
        D.run("""
            begins(0) = 0; opens(0, 0) = 1; 3 * sends(0, 0, #, 0, 5) = 0; ends(0, 0, 0) = 3; ticks(3) = 3;
            3 * entry(#, 1, 4) = 0; writer(0, 1) = 0
            """);
    }

    private static void scheduleOfTwo() {
        D.says(PLACE, SCHEDULE);
        int[][] pairs = {{0, 1, 2}, {0, 2, 1}, {1, 2, 0}};
        for (int[] pair : pairs) {
            D.run("begins(3) = 0; opens(3, 0) = 1; sends(3, 0, " + pair[1] + ", 0, 5) = 0; sends(3, 0, " + pair[0]
                + ", 0, 5) = 0; ends(3, 0, 1) = 2; ticks(1) = 1; part(" + pair[0] + ", 0) = 2; part(" + pair[1]
                + ", 0) = 1; writer(3, 1) = 2; ticks(1) = 1; part(" + pair[1] + ", 0) = 2; part(" + pair[2]
                + ", 0) = 0; writer(3, 1) = 0; ticks(1) = 0");
        }
    }

    private static void scheduleOfOne() {
        D.says(PLACE, SCHEDULE);
        for (int p = 0; p < 3; p++) {
            D.run("begins(1) = 0; opens(1, 0) = 1; sends(1, 0, " + p + ", 0, 5) = 0; ends(1, 0, 0) = 1; writer(1, 3) = 1;"
                + "ticks(1) = 1; part(" + p + ", 0) = 2; writer(1, 1) = 0; ticks(1) = 0");
        }
    }

    private static void finishedAtOnce() {
        D.says(PLACE, FINISHED);
        D.run("""
            begins(0) = 0; opens(0, 0) = 1; ends(0, 0, 1) = 0; writer(0, 1) = 0; writer(0, 4) = 0; all(3) = 0;
            all(7) = 0; opens(0, 0) = 1; ends(0, 0, 0) = 0; writer(0, 1) = 0; opens(0, 0) = 1; begins(0) = 1;
            writer(0, 1) = 0; opens(0, 1) = 1; ticks(5) = 0; writer(0, 1) = 0; writer(0, 0) = 2; all(5) = 0
            """);
    }

    private static void finishedByTheLast() {
        D.says(PLACE, FINISHED);
        D.run("""
            begins(0) = 0; opens(0, 0) = 1; sends(0, 0, 1, 0, 5) = 0; sends(0, 0, 2, 0, 5) = 0; ends(0, 0, 1) = 2;
            ticks(1) = 1; writer(0, 1) = 2; opens(0, 0) = STATE; ends(0, 0, 1) = STATE; begins(0) = STATE;
            sends(0, 0, 0, 0, 5) = STATE; carries(0, 0, 0, 0) = STATE; ticks(1) = 1; writer(0, 1) = 0;
            writer(0, 2) = 0; opens(0, 0) = 1; told(2) = 5
            """);
    }

    private static void savedWhenFinished() {
        D.says(PLACE, SAVED);
        D.run("""
            begins(0) = 0; begins(1) = 0; sends(1, 0, 0, 0, 7) = 0; reads(1, 0) = 7; opens(0, 0) = 1;
            carries(0, 0, 1, 0) = 1; sends(0, 0, 0, 0, 5) = 1; sends(0, 0, 2, 0, 5) = 0; reader(1, 0, 1) = 0;
            ends(0, 0, 1) = 2; reader(1, 0, 1) = 0; ticks(1) = 1; reader(1, 0, 1) = 0; ticks(1) = 1;
            reader(1, 0, 1) = 1; back() = 5; reader(1, 0, 1) = 0; ticks(2) = 1; reader(1, 0, 1) = 1
            """);
        D.run("""
            begins(0) = 0; sends(0, 0, 2, 0, 7) = 0; reads(0, 2) = 7; opens(0, 0) = 1; carries(0, 0, 0, 2) = 1;
            ends(0, 0, 1) = 0; reader(0, 2, 1) = 1 // at once
            """);
    }

    private static void savedOfAllConsumersAndPartitions() {
        D.says(PLACE, SAVED);
        for (int r = 0; r < 2; r++) {
            for (int p = 0; p < 3; p++) {
                StringBuilder saved = new StringBuilder();
                for (int i = 0; i < 6; i++) {
                    saved.append("; reader(" + i / 3 + ", " + i % 3 + ", 1) = " + (i == 3 * r + p ? 1 : 0));
                }
                D.run("begins(2) = 0; 3 * sends(2, 0, #, 0, 7) = 0; 3 * reads(0, #) = 7; 3 * reads(1, #) = 7;"
                    + "opens(2, 0) = 1; carries(2, 0, " + r + ", " + p + ") = 1; ends(2, 0, 1) = 0" + saved);
            }
        }
        D.run("""
            begins(2) = 0; 3 * sends(2, 0, #, 0, 7) = 0; 3 * reads(0, #) = 7; 3 * reads(1, #) = 7; opens(2, 0) = 1;
            3 * carries(2, 0, 0, #) = 1; 3 * carries(2, 0, 1, #) = 1; 3 * reader(0, #, 1) = 0; ends(2, 0, 1) = 0;
            3 * reader(0, #, 1) = 1; 3 * reader(1, #, 1) = 1
            """);
    }

    private static void savedIsTheLatest() {
        D.says(PLACE, SAVED);
        D.run("""
            begins(0) = 0; 3 * sends(0, 0, 1, #, #+7) = #; opens(0, 0) = 1; carries(0, 0, 0, 1) = 0; reads(0, 1) = 7;
            reads(0, 1) = 8; carries(0, 0, 0, 1) = 2; reads(0, 1) = 9; ends(0, 0, 1) = 0;
            reader(0, 1, 0) = 3; reader(0, 1, 1) = 2; rewinds(0) = 1; reader(0, 1, 0) = 2
            """);
        D.run("""
            begins(0) = 0; 2 * sends(0, 0, 1, #, #+7) = #; opens(0, 0) = 1; reads(0, 1) = 7; reads(0, 1) = 8;
            carries(0, 0, 0, 1) = 2; rewinds(0) = 1; carries(0, 0, 0, 1) = 0; // the latest is the lower one
            ends(0, 0, 1) = 0; reader(0, 1, 1) = 0
            """);
    }

    private static void savedGoesBackToZero() {
        D.says(PLACE, SAVED);
        D.run("""
            begins(0) = 0; begins(1) = 0; sends(0, 0, 1, 0, 7) = 0; opens(1, 0) = 1; carries(1, 0, 0, 1) = 0;
            reads(0, 1) = 7; opens(0, 0) = 2; carries(0, 0, 0, 1) = 1; ends(0, 0, 1) = 0; reader(0, 1, 1) = 1;
            ends(1, 0, 1) = 0; reader(0, 1, 1) = 0; opens(0, 0) = 1; ends(0, 0, 1) = 0; reader(0, 1, 1) = 0
            """);
    }

    private static void notSavedByAbort() {
        D.says(PLACE, SAVED);
        D.run("""
            begins(0) = 0; sends(0, 0, 1, 0, 7) = 0; reads(0, 1) = 7; opens(0, 0) = 1; carries(0, 0, 0, 1) = 1;
            ends(0, 0, 0) = 0; reader(0, 1, 1) = 0; opens(0, 0) = 1; carries(0, 0, 0, 1) = 1; sends(0, 0, 0, 0, 5) = 0;
            ends(0, 0, 0) = 1; ticks(1) = 1; reader(0, 1, 1) = 0; opens(0, 0) = 1; carries(0, 0, 0, 1) = 1;
            begins(0) = 1; reader(0, 1, 1) = 0; opens(0, 1) = 1; carries(0, 1, 0, 1) = 1; ticks(5) = 0;
            reader(0, 1, 1) = 0; writer(0, 0) = 2
            """);
    }

    private static void carriedOnceOnly() {
        D.says("promise 3", "Opens a transaction, which takes part in no partition and carries no positions.");
        D.run("""
            begins(0) = 0; begins(1) = 0; sends(0, 0, 1, 0, 7) = 0; sends(0, 0, 1, 1, 8) = 1; reads(0, 1) = 7;
            opens(0, 0) = 1; carries(0, 0, 0, 1) = 1; ends(0, 0, 1) = 0; reader(0, 1, 1) = 1; reads(0, 1) = 8;
            opens(1, 0) = 1; carries(1, 0, 0, 1) = 2; ends(1, 0, 1) = 0; reader(0, 1, 1) = 2;
            opens(0, 0) = 1; ends(0, 0, 1) = 0; reader(0, 1, 1) = 2; // not 1 again
            opens(1, 0) = 1; carries(1, 0, 0, 1) = 2; ends(1, 0, 0) = 0; rewinds(0) = 0
            """);
        for (int i = 0; i < 6; i++) {
            String pair = i / 3 + ", " + i % 3;
            String start = "begins(0) = 0; 3 * sends(0, 0, #, 0, 7) = 0; 3 * sends(0, 0, #, 1, 8) = 1; reads(" + pair
                + ") = 7; opens(0, 0) = 1; carries(0, 0, " + pair + ") = 1; ";
            // An aborted one's is gone
            D.run(start + "ends(0, 0, 0) = 0; opens(0, 0) = 1; ends(0, 0, 1) = 0; reader(" + pair + ", 1) = 0");
            D.run(start + "begins(0) = 1; opens(0, 1) = 1; ends(0, 1, 1) = 0; reader(" + pair + ", 1) = 0");
            // So is a committed one's: what another has saved since then stays
            D.run(start + "ends(0, 0, 1) = 0; reader(" + pair + ", 1) = 1; begins(1) = 0; opens(1, 0) = 1; reads(" + pair
                + ") = 8; carries(1, 0, " + pair + ") = 2; ends(1, 0, 1) = 0; opens(0, 0) = 1; ends(0, 0, 1) = 0; reader("
                + pair + ", 1) = 2");
        }
    }

    private static void beginsWhenIdle() {
        D.says(PLACE, BEGINS);
        D.run("""
            begins(1) = 0; writer(1, 0) = 0; writer(1, 1) = 0; begins(1) = 1; writer(1, 0) = 1; writer(1, 1) = 0;
            writer(0, 0) = -1; told(6) = 2; back() = 1; writer(1, 0) = 0
            """);
    }

    private static void beginsWhenOpen() {
        D.says(PLACE, BEGINS);
        D.run("""
            begins(1) = 0; opens(1, 0) = 1; sends(1, 0, 2, 0, 5) = 0; sends(1, 0, 0, 0, 5) = 0; begins(1) = 1;
            writer(1, 1) = 2; writer(1, 2) = 5; writer(1, 3) = 2; writer(1, 4) = 0; begins(1) = STATE;
            ticks(1) = 1; entry(0, 1, 4) = 0; entry(0, 1, 2) = 1; begins(1) = STATE; ticks(1) = 1;
            entry(2, 1, 4) = 0; writer(1, 1) = 0; begins(1) = 2; told(2) = 2
            """);
    }

    private static void beginsAtTheTop() {
        D.says("promise 2", "FULL if its epoch is 99 or more.");
        D.run("""
            99 * begins(3) = #; writer(3, 0) = 98; begins(3) = 99; begins(3) = FULL; writer(3, 0) = 99; told(4) = 1;
            begins(2) = 0; opens(3, 98) = FENCED; opens(3, 100) = BAD; opens(3, 99) = 1; begins(3) = FULL;
            writer(3, 1) = 1; ends(3, 99, 1) = 0; back() = 5; begins(3) = FULL
            """);
    }

    private static void beginsWhenEndingAtTheTop() {
        D.says("promise 2", "STATE if it is ending; FULL if its epoch is 99 or more.");
        D.run("""
            99 * begins(0) = #; opens(0, 98) = 1; sends(0, 98, 0, 0, 5) = 0; begins(0) = 99; writer(0, 1) = 2;
            begins(0) = STATE; told(4) = 0; ticks(1) = 1; begins(0) = FULL; told(2) = 1; told(4) = 1
            """);
    }

    private static void timeIncreases() {
        D.says(PLACE, "In a tick, the time increases by 1.");
        D.run("all(0) = 0; ticks(1) = 0; all(0) = 1; ticks(2) = 0; all(0) = 3; ticks(20) = 0; all(0) = 23");
    }

    private static void markersInOrder() {
        D.says(PLACE, "Then all markers that are scheduled for this time are appended to their logs, in ascending order "
            + "of the producers (there is at most one for each producer).");
        D.run("""
            4 * begins(#) = 0; opens(3, 0) = 1; opens(2, 0) = 2; opens(1, 0) = 3; opens(0, 0) = 4;
            sends(3, 0, 1, 0, 3) = 0; sends(2, 0, 1, 0, 2) = 1; sends(1, 0, 1, 0, 1) = 2; sends(0, 0, 1, 0, 0) = 3;
            ends(3, 0, 1) = 1; ends(1, 0, 1) = 1; ends(2, 0, 0) = 1; ends(0, 0, 0) = 1; ticks(1) = 4;
            4 * entry(1, #+4, 1) = #; entry(1, 4, 4) = 0; entry(1, 5, 4) = 1; entry(1, 6, 4) = 0; entry(1, 7, 4) = 1
            """);
    }

    private static void markersOfDifferentEnds() {
        D.says(PLACE, "all markers that are scheduled for this time are appended to their logs, "
            + "in ascending order of the producers");
        D.run("""
            4 * begins(#) = 0; opens(2, 0) = 1; opens(0, 0) = 2; sends(2, 0, 0, 0, 5) = 0; sends(2, 0, 1, 0, 5) = 0;
            sends(0, 0, 1, 0, 5) = 1; sends(0, 0, 2, 0, 5) = 0; ends(2, 0, 1) = 2; ticks(1) = 1;
            ends(0, 0, 1) = 2; ticks(1) = 2; // both markers stand in partition 1, that of producer 0 first
            part(1, 0) = 4; entry(1, 2, 1) = 0; entry(1, 3, 1) = 2; part(2, 0) = 1; ticks(1) = 1; part(2, 0) = 2
            """);
    }

    private static void hangsAtTheLimit() {
        D.says(PLACE, HANGS);
        D.run("""
            begins(0) = 0; ticks(3) = 0; opens(0, 0) = 1; sends(0, 0, 1, 0, 5) = 0; ticks(4) = 0; writer(0, 1) = 1;
            writer(0, 5) = 4; writer(0, 0) = 0; ticks(1) = 0; writer(0, 1) = 2; writer(0, 0) = 1; writer(0, 4) = 0;
            writer(0, 3) = 1; writer(0, 5) = NONE; part(1, 0) = 1; ticks(1) = 1; entry(1, 1, 4) = 0;
            entry(1, 1, 2) = 1; writer(0, 1) = 0; ticks(20) = 0; writer(0, 0) = 1 // an idle one does not hang
            """);
        D.run("begins(0) = 0; limit(1) = 5; opens(0, 0) = 1; writer(0, 1) = 1; ticks(1) = 0; writer(0, 1) = 0");
        D.run("""
            begins(0) = 0; limit(20) = 5; opens(0, 0) = 1; ticks(19) = 0; writer(0, 1) = 1; writer(0, 5) = 19;
            ticks(1) = 0; writer(0, 1) = 0; writer(0, 0) = 1
            """);
    }

    private static void hangsPastTheLimit() {
        D.says(PLACE, HANGS);
        D.run("""
            begins(0) = 0; limit(20) = 5; opens(0, 0) = 1; ticks(9) = 0; limit(2) = 20; writer(0, 1) = 1; // not at once
            writer(0, 0) = 0; ticks(1) = 0; writer(0, 1) = 0; writer(0, 0) = 1
            """);
        D.run("""
            begins(0) = 0; opens(0, 0) = 1; ticks(4) = 0; limit(6) = 5; ticks(1) = 0; writer(0, 1) = 1;
            ticks(1) = 0; writer(0, 1) = 0
            """);
    }

    private static void hangsWithinManyTicks() {
        D.says(PLACE, HANGS);
        String start = "begins(0) = 0; opens(0, 0) = 1; 3 * sends(0, 0, #, 0, 5) = 0; ";
        int[] markers = {0, 1, 2, 3, 3};
        for (int n = 5; n <= 9; n++) {
            D.run(start + "ticks(" + n + ") = " + markers[n - 5] + "; writer(0, 1) = " + (n < 8 ? 2 : 0)
                + "; writer(0, 0) = 1; all(5) = " + markers[n - 5]);
        }
        D.run(start + "ticks(20) = 3; writer(0, 0) = 1; all(0) = 20; back() = 5; writer(0, 0) = 0; writer(0, 1) = 1");
    }

    private static void hangsAlone() {
        D.says(PLACE, HANGS);
        D.run("""
            4 * begins(#) = 0; limit(2) = 5; opens(0, 0) = 1; opens(3, 0) = 2; sends(3, 0, 0, 0, 5) = 0; ticks(1) = 0;
            opens(1, 0) = 2+1; opens(2, 0) = 4; sends(2, 0, 0, 0, 6) = 1; ends(2, 0, 1) = 1; // ending: does not hang
            ticks(1) = 1; writer(0, 0) = 1; writer(0, 1) = 0; writer(3, 0) = 1; writer(3, 1) = 2; writer(1, 0) = 0;
            writer(1, 1) = 1; writer(2, 0) = 0; writer(2, 1) = 0; entry(0, 2, 4) = 1; ticks(1) = 1; writer(1, 0) = 1
            """);
        D.run("""
            begins(0) = 0; opens(0, 0) = 1; 3 * sends(0, 0, #, 0, 5) = 0; ticks(3) = 0; ends(0, 0, 1) = 3;
            ticks(2) = 2; writer(0, 0) = 0; writer(0, 4) = 1; // older than the limit, but no longer open
            ticks(1) = 1; writer(0, 0) = 0; 3 * entry(#, 1, 4) = 1
            """);
    }

    private static void hangsBeyond99() {
        D.says(PLACE, HANGS);
        D.run("""
            100 * begins(0) = #; limit(1) = 5; opens(0, 99) = 1; sends(0, 99, 0, 0, 5) = 0; ticks(1) = 0;
            writer(0, 0) = 100; begins(0) = STATE; ticks(1) = 1; entry(0, 1, 2) = 100; begins(0) = FULL;
            sends(0, 99, 0, 0, 5) = FENCED; sends(0, 101, 0, 0, 5) = BAD; sends(0, 100, 0, 0, 5) = 2;
            opens(0, 100) = 1; ticks(1) = 0; writer(0, 0) = 101; begins(0) = FULL; opens(0, 100) = FENCED;
            opens(0, 101) = 1; carries(0, 100, 0, 0) = FENCED; carries(0, 101, 0, 0) = 0; ends(0, 100, 1) = FENCED;
            ends(0, 101, 1) = 0
            """);
    }

    private static void limitEdges() {
        D.says(PLACE, "The limit is 1 to 20, and 5 at first.");
        D.run("""
            all(1) = 5; limit(0) = BAD; limit(21) = BAD; limit(-1) = BAD; limit(min) = BAD; limit(max) = BAD;
            all(1) = 5; limit(1) = 5; all(1) = 1; limit(20) = 1; all(1) = 20; limit(20) = 20; told(6) = 3;
            back() = 2; back() = 1; all(1) = 1; back() = 0; all(1) = 5; told(0) = 5
            """);
    }
}
