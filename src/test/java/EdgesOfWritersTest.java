/** Boundaries of promises 1 to 3 and 5 to 9: ranges of the arguments, and which of two errors comes first. */
public final class EdgesOfWritersTest {
    private static final Due D = new Due();

    public static void main(String[] args) {
        newObject();
        beginsReturns();
        opensReturns();
        opensBad();
        opensFenced();
        opensState();
        endsReturns();
        endsBad();
        endsFenced();
        endsState();
        carriesReturns();
        carriesInPlace();
        carriesBad();
        carriesFenced();
        carriesState();
        ticksRange();
        ticksReturns();
        limitRange();
        writerRange();
        writerModes();
        writerPartitions();
        writerMarkers();
        writerCommit();
        writerTicks();
        writerNumbers();
        D.end();
    }

    private static void newObject() {
        D.says("promise 1", "Creates an object with empty logs, as described above, with an empty text; "
            + "no state is kept, and nothing is counted.");
        D.run("7 * told(#) = 0; all(4) = 0; clear() = 0; back() = STATE; told(2) = 1");
        D.run("asked() = 0; does() = -10; 7 * told(#) = 0; 3 * part(#, 0) = 0; 3 * entry(#, 0, 0) = BAD");
    }

    private static void beginsReturns() {
        D.says("promise 2", "Returns its new epoch; BAD if there is no such producer; STATE if it is ending");
        D.run("""
            begins(-1) = BAD; begins(4) = BAD; begins(0) = 0; begins(3) = 0; begins(3) = 1; opens(3, 1) = 1;
            begins(3) = 2; opens(3, 2) = 1; sends(3, 2, 0, 0, 1) = 0; begins(3) = 3; begins(3) = STATE;
            begins(0) = 1; ticks(1) = 1; begins(3) = 4; told(0) = 2; told(2) = 1
            """);
    }

    private static void opensReturns() {
        D.says("promise 3", "Returns the number of open producers then");
        D.run("""
            4 * begins(#) = 0; opens(3, 0) = 1; opens(0, 0) = 2; opens(2, 0) = 3; opens(1, 0) = 4; all(2) = 4;
            ends(0, 0, 1) = 0; all(2) = 3; opens(0, 0) = 4; sends(1, 0, 0, 0, 5) = 0; ends(1, 0, 1) = 1; all(2) = 3;
            ends(2, 0, 1) = 0; opens(2, 0) = 3 // an ending one is not open
            """);
    }

    private static void opensBad() {
        D.says("promise 3", "BAD if there is no such producer or age is negative or greater than its epoch");
        D.run("""
            opens(0, 0) = BAD; begins(0) = 0; begins(0) = 1; opens(0, 2) = BAD; opens(0, max) = BAD;
            opens(0, -1) = BAD; opens(0, min) = BAD; opens(-1, 0) = BAD; opens(4, 0) = BAD; opens(1, 0) = BAD;
            opens(0, 1) = 1; opens(0, 2) = BAD; opens(0, -1) = BAD; // BAD before STATE
            told(0) = 10; told(2) = 0
            """);
    }

    private static void opensFenced() {
        D.says("promise 3", "FENCED if age is less than its epoch; STATE if it is not idle.");
        D.run("""
            begins(0) = 0; begins(0) = 1; begins(0) = 2; opens(0, 0) = FENCED; opens(0, 1) = FENCED; opens(0, 2) = 1;
            opens(0, 1) = FENCED; opens(0, 2) = STATE; sends(0, 2, 0, 0, 5) = 0; ends(0, 2, 1) = 1;
            opens(0, 1) = FENCED; opens(0, 2) = STATE; ticks(1) = 1; opens(0, 1) = FENCED; opens(0, 2) = 1;
            told(1) = 5; told(2) = 2
            """);
    }

    private static void opensState() {
        D.says("promise 3", "STATE if it is not idle.");
        D.run("""
            begins(3) = 0; opens(3, 0) = 1; opens(3, 0) = STATE; sends(3, 0, 0, 0, 5) = 0; sends(3, 0, 1, 0, 5) = 0;
            ticks(2) = 0; opens(3, 0) = STATE; writer(3, 5) = 2; // its age is not set back
            ends(3, 0, 0) = 2; opens(3, 0) = STATE; ticks(1) = 1; opens(3, 0) = STATE; ticks(1) = 1; opens(3, 0) = 1;
            told(2) = 4
            """);
    }

    private static void endsReturns() {
        D.says("promise 5", "Returns in how many partitions the transaction takes part");
        D.run("""
            begins(0) = 0; opens(0, 0) = 1; ends(0, 0, 1) = 0; opens(0, 0) = 1; 2 * sends(0, 0, 1, #, 5) = #;
            ends(0, 0, 1) = 1; ticks(1) = 1; opens(0, 0) = 1; sends(0, 0, 1, 2, 5) = 3; sends(0, 0, 2, 0, 5) = 0;
            ends(0, 0, 0) = 2; ticks(2) = 2; opens(0, 0) = 1; sends(0, 0, 2, 1, 5) = 2; sends(0, 0, 0, 0, 5) = 0;
            sends(0, 0, 1, 3, 5) = 5; ends(0, 0, 1) = 3
            """);
    }

    private static void endsBad() {
        D.says("promise 5", "BAD if there is no such producer, age is negative or greater than its epoch, "
            + "or commit is not 0 or 1");
        D.run("""
            ends(0, 0, 1) = BAD; begins(0) = 0; begins(0) = 1; opens(0, 1) = 1;
            ends(-1, 1, 1) = BAD; ends(4, 1, 1) = BAD; ends(0, -1, 1) = BAD; ends(0, 2, 1) = BAD;
            ends(0, min, 1) = BAD; ends(0, max, 1) = BAD; ends(0, 1, -1) = BAD; ends(0, 1, 2) = BAD;
            ends(0, 1, min) = BAD; ends(0, 1, max) = BAD; ends(1, 0, 1) = BAD;
            ends(0, 0, 2) = BAD; ends(0, 0, -1) = BAD; // BAD before FENCED
            ends(0, 1, 0) = 0; ends(0, 1, 2) = BAD; ends(0, 2, 1) = BAD; // BAD before STATE
            ends(0, 1, 1) = STATE; told(0) = 16; told(1) = 0; told(2) = 1
            """);
    }

    private static void endsFenced() {
        D.says("promise 5", "FENCED if age is less than its epoch; STATE if it is not open.");
        D.run("""
            begins(0) = 0; begins(0) = 1; ends(0, 0, 1) = FENCED; ends(0, 1, 1) = STATE; opens(0, 1) = 1;
            ends(0, 0, 1) = FENCED; sends(0, 1, 0, 0, 5) = 0; ends(0, 1, 1) = 1; ends(0, 0, 1) = FENCED;
            ends(0, 1, 1) = STATE; told(1) = 3; told(2) = 2
            """);
    }

    private static void endsState() {
        D.says("promise 5", "STATE if it is not open.");
        D.run("""
            begins(2) = 0; ends(2, 0, 0) = STATE; ends(2, 0, 1) = STATE; opens(2, 0) = 1; sends(2, 0, 0, 0, 5) = 0;
            sends(2, 0, 1, 0, 5) = 0; ends(2, 0, 0) = 2; ends(2, 0, 1) = STATE; writer(2, 4) = 0; // still by abort
            ticks(1) = 1; ends(2, 0, 1) = STATE; ticks(1) = 1; ends(2, 0, 0) = STATE; entry(1, 1, 4) = 0; told(2) = 5
            """);
    }

    private static void carriesReturns() {
        D.says("promise 6", "Returns this position");
        D.run("""
            begins(0) = 0; 47 * sends(0, 0, 2, #, 5) = #; opens(0, 0) = 1; carries(0, 0, 1, 2) = 0; reads(1, 2) = 5;
            carries(0, 0, 1, 2) = 1; carries(0, 0, 0, 2) = 0; carries(0, 0, 1, 1) = 0; 46 * reads(1, 2) = 5;
            carries(0, 0, 1, 2) = 47; ends(0, 0, 1) = 0; reader(1, 2, 1) = 47; reader(0, 2, 1) = 0
            """);
        D.run("""
            begins(0) = 0; 48 * sends(0, 0, 2, #, 5) = #; opens(0, 0) = 1; 48 * reads(0, 2) = 5;
            carries(0, 0, 0, 2) = 48; reads(0, 2) = NONE; ends(0, 0, 1) = 0; reader(0, 2, 1) = 48; rewinds(0) = 0
            """);
    }

    private static void carriesInPlace() {
        D.says("promise 6", "in place of what it carried for this consumer and partition");
        D.run("""
            begins(0) = 0; 2 * sends(0, 0, 0, #, 5) = #; sends(0, 0, 1, 0, 5) = 0; opens(0, 0) = 1; reads(0, 0) = 5;
            reads(1, 0) = 5; reads(0, 1) = 5; carries(0, 0, 0, 0) = 1; carries(0, 0, 1, 0) = 1; carries(0, 0, 0, 1) = 1;
            reads(0, 0) = 5; carries(0, 0, 0, 0) = 2; ends(0, 0, 1) = 0;
            reader(0, 0, 1) = 2; reader(1, 0, 1) = 1; reader(0, 1, 1) = 1; reader(1, 1, 1) = 0
            """);
    }

    private static void carriesBad() {
        D.says("promise 6", "BAD if there is no such producer, consumer or partition, "
            + "or age is negative or greater than its epoch");
        D.run("""
            carries(0, 0, 0, 0) = BAD; begins(0) = 0; begins(0) = 1; opens(0, 1) = 1;
            carries(-1, 1, 0, 0) = BAD; carries(4, 1, 0, 0) = BAD; carries(0, -1, 0, 0) = BAD; carries(0, 2, 0, 0) = BAD;
            carries(0, min, 0, 0) = BAD; carries(0, max, 0, 0) = BAD;
            carries(0, 1, -1, 0) = BAD; carries(0, 1, 2, 0) = BAD; carries(0, 1, min, 0) = BAD;
            carries(0, 1, max, 0) = BAD; carries(0, 1, 0, -1) = BAD; carries(0, 1, 0, 3) = BAD;
            carries(0, 0, 2, 0) = BAD; carries(0, 0, -1, 0) = BAD; // BAD before FENCED
            carries(0, 0, 0, 3) = BAD; carries(0, 0, 0, -1) = BAD;
            carries(0, 1, 1, 2) = 0; ends(0, 1, 0) = 0;
            carries(0, 1, 2, 0) = BAD; carries(0, 1, 0, 3) = BAD; carries(0, 2, 0, 0) = BAD; // BAD before STATE
            told(0) = 20; told(1) = 0; told(2) = 0
            """);
    }

    private static void carriesFenced() {
        D.says("promise 6", "FENCED if age is less than its epoch; STATE if the producer is not open.");
        D.run("""
            begins(0) = 0; begins(0) = 1; carries(0, 0, 0, 0) = FENCED; carries(0, 1, 0, 0) = STATE; opens(0, 1) = 1;
            carries(0, 0, 0, 0) = FENCED; carries(0, 1, 0, 0) = 0; told(1) = 2; told(2) = 1
            """);
    }

    private static void carriesState() {
        D.says("promise 6", "STATE if the producer is not open.");
        D.run("""
            begins(0) = 0; begins(1) = 0; sends(1, 0, 0, 0, 7) = 0; reads(0, 0) = 7; carries(0, 0, 0, 0) = STATE;
            opens(0, 0) = 1; sends(0, 0, 0, 0, 5) = 1; ends(0, 0, 1) = 1; carries(0, 0, 0, 0) = STATE; // too late
            ticks(1) = 1; reader(0, 0, 1) = 0; carries(0, 0, 0, 0) = STATE; told(2) = 3
            """);
    }

    private static void ticksRange() {
        D.says("promise 7", "Returns how many markers are written by them; BAD if n is out of range.");
        D.run("""
            ticks(0) = BAD; ticks(21) = BAD; ticks(-1) = BAD; ticks(min) = BAD; ticks(max) = BAD; all(0) = 0;
            told(6) = 0; ticks(1) = 0; all(0) = 1; ticks(20) = 0; all(0) = 21; told(0) = 5; told(6) = 2
            """);
    }

    private static void ticksReturns() {
        D.says("promise 7", "Returns how many markers are written by them");
        D.run("""
            4 * begins(#) = 0; 4 * opens(#, 0) = #+1; 4 * sends(#, 0, 0, 0, 5) = #; 4 * sends(#, 0, 2, 0, 5) = #;
            3 * ends(#, 0, 1) = 2; ticks(1) = 3; ticks(20) = 5; // three of them, and two of the one that hangs
            ticks(20) = 0; all(5) = 8
            """);
    }

    private static void limitRange() {
        D.says("promise 8", "Returns the limit before; BAD if n is out of range.");
        D.run("""
            limit(0) = BAD; limit(21) = BAD; limit(-1) = BAD; limit(min) = BAD; limit(max) = BAD; told(0) = 5;
            limit(20) = 5; limit(1) = 20; limit(2) = 1; limit(2) = 2; all(1) = 2; told(6) = 4
            """);
    }

    private static void writerRange() {
        D.says("promise 9", "Returns the property; BAD if there is no such producer or what is not 0 to 8.");
        D.run("""
            writer(0, -1) = BAD; writer(0, 9) = BAD; writer(0, min) = BAD; writer(0, max) = BAD; writer(-1, 0) = BAD;
            writer(4, 0) = BAD; writer(-1, 5) = BAD; writer(4, 5) = BAD; // BAD, not NONE
            writer(4, 9) = BAD; told(0) = 9; writer(0, 0) = -1; writer(3, 8) = 0; told(0) = 9
            """);
    }

    private static void writerModes() {
        D.says("promise 9", "1 for 0 if it is idle, 1 if it is open, 2 if it is ending");
        D.run("""
            writer(1, 1) = 0; begins(1) = 0; writer(1, 1) = 0; opens(1, 0) = 1; writer(1, 1) = 1;
            sends(1, 0, 0, 0, 5) = 0; writer(1, 1) = 1; ends(1, 0, 1) = 1; writer(1, 1) = 2; ticks(1) = 1;
            writer(1, 1) = 0; writer(0, 1) = 0
            """);
    }

    private static void writerPartitions() {
        D.says("promise 9", "(bit p for partition p; also those that have a marker already; 0 if it is idle)");
        D.run("""
            begins(1) = 0; opens(1, 0) = 1; writer(1, 2) = 0; sends(1, 0, 0, 0, 5) = 0; writer(1, 2) = 1;
            sends(1, 0, 2, 0, 5) = 0; writer(1, 2) = 5; ends(1, 0, 1) = 2; ticks(1) = 1; writer(1, 2) = 5;
            ticks(1) = 1; writer(1, 2) = 0; opens(1, 0) = 1; sends(1, 0, 1, 0, 5) = 0; writer(1, 2) = 2
            """);
    }

    private static void writerMarkers() {
        D.says("promise 9", "3 for the number of markers of its transaction that are scheduled and not written yet "
            + "(0 if it is open)");
        D.run("""
            begins(1) = 0; writer(1, 3) = 0; opens(1, 0) = 1; 3 * sends(1, 0, #, 0, 5) = 0; writer(1, 3) = 0;
            ends(1, 0, 1) = 3; writer(1, 3) = 3; ticks(1) = 1; writer(1, 3) = 2; ticks(1) = 1; writer(1, 3) = 1;
            ticks(1) = 1; writer(1, 3) = 0
            """);
    }

    private static void writerCommit() {
        D.says("promise 9", "4 for 1 if it is ending by commit, otherwise 0");
        D.run("""
            begins(1) = 0; writer(1, 4) = 0; opens(1, 0) = 1; sends(1, 0, 0, 0, 5) = 0; writer(1, 4) = 0;
            ends(1, 0, 1) = 1; writer(1, 4) = 1; ticks(1) = 1; writer(1, 4) = 0; opens(1, 0) = 1; writer(1, 4) = 0;
            sends(1, 0, 0, 1, 5) = 2; ends(1, 0, 0) = 1; writer(1, 4) = 0
            """);
    }

    private static void writerTicks() {
        D.says("promise 9", "5 for the number of ticks since its transaction was opened (NONE if it is not open)");
        D.run("""
            writer(1, 5) = NONE; begins(1) = 0; limit(20) = 5; writer(1, 5) = NONE; ticks(2) = 0; opens(1, 0) = 1;
            writer(1, 5) = 0; ticks(1) = 0; writer(1, 5) = 1; ticks(18) = 0; writer(1, 5) = 19;
            sends(1, 0, 0, 0, 5) = 0; ends(1, 0, 1) = 1; writer(1, 5) = NONE; ticks(1) = 1; writer(1, 5) = NONE;
            opens(1, 0) = 1; writer(1, 5) = 0; told(0) = 0
            """);
    }

    private static void writerNumbers() {
        D.says("promise 9", "6, 7, 8 for the number that is due in partition 0, 1, 2");
        D.run("""
            begins(1) = 0; sends(1, 0, 0, 0, 5) = 0; 2 * sends(1, 0, 1, #, 5) = #; 3 * sends(1, 0, 2, #, 5) = #;
            writer(1, 6) = 1; writer(1, 7) = 2; writer(1, 8) = 3; writer(2, 8) = 0; opens(1, 0) = 1;
            sends(1, 0, 2, 3, 5) = 3; writer(1, 8) = 4; ends(1, 0, 1) = 1; writer(1, 8) = 4; ticks(1) = 1;
            writer(1, 8) = 4
            """);
    }
}
