import java.lang.management.ManagementFactory;

/** All that an object needs is made with it: no call makes an object, as all calls of a run live in one room. */
public final class RoomTest {
    private static final Due D = new Due();
    private static final com.sun.management.ThreadMXBean BEAN =
        (com.sun.management.ThreadMXBean) ManagementFactory.getThreadMXBean();

    public static void main(String[] args) {
        D.about("room");
        BEAN.setThreadAllocatedMemoryEnabled(true);
        OnceLetters warm = new OnceLetters();
        long sum = work(warm);
        long start = here();
        OnceLetters x = new OnceLetters();
        long made = here() - start;
        start = here();
        sum += work(x);
        long used = here() - start;
        System.out.println("an object: " + made + " bytes, its calls: " + used + " bytes (" + sum + ")");
        D.holds("an object takes less than 40,000 bytes", made < 40_000);
        D.holds("its calls take next to nothing", used < 2_000);
        outliving(x);
        D.end();
    }

    private static long here() {
        return BEAN.getThreadAllocatedBytes(Thread.currentThread().getId());
    }

    private static long work(OnceLetters x) {
        long sum = 0;
        for (int c = 'a'; c < 'd'; c++) {
            sum += x.type(c);
        }
        x.clear();
        sum += x.type('b') + x.type('1') + x.type(';') + x.type('t') + x.type('3') + x.type(';');
        sum += x.begins(0);
        for (int i = 0; i < 60; i++) {
            sum += x.does() + x.asked();
            int age = x.writer(0, 0);
            sum += x.opens(0, age);
            sum += x.sends(0, age, i % 3, x.writer(0, 6 + i % 3), i) + x.carries(0, age, 1, i % 3);
            sum += x.ends(0, age, i % 2) + x.ticks(2) + x.limit(1 + i % 20);
            sum += x.reads(0, i % 3) + x.rewinds(i % 2) + x.reader(1, i % 3, i % 4) + x.aborted(i % 3, 0, i % 3);
            sum += x.entry(0, i, i % 7) + x.part(i % 3, i % 6) + x.all(i % 9) + x.told(i % 8);
            sum += i % 5 == 0 ? x.back() + x.digest() : 0;
        }
        return sum;
    }

    /** What later calls answer is free, but they must not throw. */
    private static void outliving(OnceLetters x) {
        long sum = 0;
        for (int i = 0; i < 200; i++) {
            sum += work(x);
        }
        D.holds("no call throws after very many", sum != 1);
    }
}
