/** A log with partitions in which each message counts once; ../shared/DOC.md says what each method promises. */
public final class OnceLetters {
    public static final int NONE = -1, BAD = -2, STATE = -3, FULL = -4, FENCED = -6, GAP = -7, TWIN = 1000;

    private static final int PARTS = 3, WRITERS = 4, READERS = 2;
    private static final int ENTRIES = 48, RECENT = 3, HIGHEST = 99, LONGEST = 20, FIRST_LIMIT = 5;
    private static final int IDLE = 0, OPEN = 1, ENDING = 2;
    private static final int PLAIN = 0, UNDECIDED = 1, COMMITTED = 2, ABORTED = 3;
    private static final int STATES = 6, ERRORS = 5;
    private static final int BYTES = 120, ORDERS = 40, NUMBERS = 5;
    private static final int FAULT = -10;
    private static final int SEED = 2297;

    private final Log[] logs = new Log[PARTS];
    private final State now = new State();
    private final State[] kept = new State[STATES];
    private int keptCount = 0;
    private int keptNext = 0;
    private final Script script = new Script();
    private final int[] errors = new int[ERRORS];
    private int lastAnswer = 0;
    private boolean inOrders = false;

    public OnceLetters() {
        for (int p = 0; p < PARTS; p++) {
            logs[p] = new Log();
        }
        for (int i = 0; i < STATES; i++) {
            kept[i] = new State();
        }
    }

    // ---- writers

    public int begins(int w) {
        if (outside(w, WRITERS)) {
            return failed(BAD);
        }
        Producer producer = now.producers[w];
        if (producer.mode == ENDING) {
            return failed(STATE);
        }
        if (producer.age >= HIGHEST) {
            return failed(FULL);
        }
        keep();
        producer.age++;
        if (producer.mode == OPEN) {
            endDeed(producer, 0);
        }
        return producer.age;
    }

    public int opens(int w, int age) {
        if (wrongAge(w, age)) {
            return failed(BAD);
        }
        Producer producer = now.producers[w];
        if (age < producer.age) {
            return failed(FENCED);
        }
        if (producer.mode != IDLE) {
            return failed(STATE);
        }
        keep();
        producer.mode = OPEN;
        producer.opened = now.time;
        return producersIn(OPEN);
    }

    public int sends(int w, int age, int part, int number, int value) {
        if (wrongAge(w, age) || outside(part, PARTS) || outside(number, HIGHEST + 1) || outside(value, HIGHEST + 1)) {
            return failed(BAD);
        }
        Producer producer = now.producers[w];
        if (age < producer.age) {
            return failed(FENCED);
        }
        if (producer.mode == ENDING) {
            return failed(STATE);
        }
        Log log = logs[part];
        int twin = log.twinOf(w, age, number);
        if (twin != NONE) {
            return TWIN + twin;
        }
        if (number != log.numberDue(w, age)) {
            return failed(GAP);
        }
        if (log.length + reserve(part) >= ENTRIES) {
            return failed(FULL);
        }
        keep();
        if (producer.mode == OPEN && producer.first[part] == NONE) {
            producer.first[part] = log.length;
        }
        return log.append(w, age, number, value, producer.first[part]);
    }

    public int ends(int w, int age, int commit) {
        if (wrongAge(w, age) || outside(commit, 2)) {
            return failed(BAD);
        }
        Producer producer = now.producers[w];
        if (age < producer.age) {
            return failed(FENCED);
        }
        if (producer.mode != OPEN) {
            return failed(STATE);
        }
        keep();
        return endDeed(producer, commit);
    }

    public int carries(int w, int age, int reader, int part) {
        if (wrongAge(w, age) || outside(reader, READERS) || outside(part, PARTS)) {
            return failed(BAD);
        }
        Producer producer = now.producers[w];
        if (age < producer.age) {
            return failed(FENCED);
        }
        if (producer.mode != OPEN) {
            return failed(STATE);
        }
        keep();
        int place = now.consumers[reader].place[part];
        producer.carried[reader * PARTS + part] = place;
        return place;
    }

    public int ticks(int n) {
        if (n < 1 || n > LONGEST) {
            return failed(BAD);
        }
        keep();
        int written = 0;
        for (int i = 0; i < n; i++) {
            now.time++;
            written += writeMarkers();
            abortHanging();
        }
        return written;
    }

    public int limit(int n) {
        if (n < 1 || n > LONGEST) {
            return failed(BAD);
        }
        keep();
        int before = now.limit;
        now.limit = n;
        return before;
    }

    public int writer(int w, int what) {
        if (outside(w, WRITERS) || outside(what, 9)) {
            return failed(BAD);
        }
        Producer producer = now.producers[w];
        switch (what) {
            case 0:
                return producer.age;
            case 1:
                return producer.mode;
            case 2:
                return producer.partSet();
            case 3:
                return producer.markersDue();
            case 4:
                return producer.commit;
            case 5:
                return producer.mode == OPEN ? now.time - producer.opened : NONE;
            default:
                return logs[what - 6].numberDue(w, producer.age);
        }
    }

    // ---- logs

    public int entry(int part, int place, int what) {
        if (outside(part, PARTS) || outside(place, logs[part].length) || outside(what, 7)) {
            return failed(BAD);
        }
        Log log = logs[part];
        switch (what) {
            case 0:
                return log.isMarker(place) ? 1 : 0;
            case 1:
                return log.writer[place];
            case 2:
                return log.age[place];
            case 3:
                return log.number[place];
            case 4:
                return log.value[place];
            case 5:
                return log.fate(place);
            default:
                return log.isVisible(place, stable(part)) ? 1 : 0;
        }
    }

    public int part(int p, int what) {
        if (outside(p, PARTS) || outside(what, 6)) {
            return failed(BAD);
        }
        switch (what) {
            case 0:
                return logs[p].length;
            case 1:
                return stable(p);
            case 2:
                return logs[p].visibleFrom(0, stable(p));
            case 3:
                return reserve(p);
            case 4:
                return holder(p);
            default:
                return logs[p].abortedDeeds();
        }
    }

    public int aborted(int part, int k, int what) {
        if (outside(part, PARTS) || k < 0 || outside(what, 3)) {
            return failed(BAD);
        }
        Log log = logs[part];
        int first = log.abortedFirst(k);
        if (first == NONE) {
            return NONE;
        }
        switch (what) {
            case 0:
                return log.writer[first];
            case 1:
                return first;
            default:
                return log.mark[first];
        }
    }

    // ---- readers

    public int reads(int reader, int part) {
        if (outside(reader, READERS) || outside(part, PARTS)) {
            return failed(BAD);
        }
        Consumer consumer = now.consumers[reader];
        int place = logs[part].nextVisible(consumer.place[part], stable(part));
        if (place == NONE) {
            return NONE;
        }
        keep();
        consumer.place[part] = place + 1;
        return logs[part].value[place];
    }

    public int rewinds(int reader) {
        if (outside(reader, READERS)) {
            return failed(BAD);
        }
        keep();
        return now.consumers[reader].returnToSaved();
    }

    public int reader(int reader, int part, int what) {
        if (outside(reader, READERS) || outside(part, PARTS) || outside(what, 4)) {
            return failed(BAD);
        }
        Consumer consumer = now.consumers[reader];
        switch (what) {
            case 0:
                return consumer.place[part];
            case 1:
                return consumer.saved[part];
            case 2:
                return logs[part].visibleFrom(consumer.place[part], stable(part));
            default:
                return logs[part].nextVisible(consumer.place[part], stable(part));
        }
    }

    // ---- texts

    public int type(int c) {
        if (outside(c, 128)) {
            return failed(BAD);
        }
        if (script.length >= BYTES) {
            return failed(FULL);
        }
        script.bytes[script.length] = c;
        script.length++;
        return script.length;
    }

    public int clear() {
        int before = script.length;
        script.length = 0;
        return before;
    }

    public int does() {
        int fault = script.findFault();
        if (fault != NONE) {
            return FAULT - fault;
        }
        keep();
        inOrders = true;
        int good = 0;
        for (int i = 0; i < script.orders; i++) {
            lastAnswer = carryOut(i);
            if (lastAnswer >= 0) {
                good++;
            }
        }
        inOrders = false;
        return good;
    }

    // ---- what is told

    public int asked() {
        return lastAnswer;
    }

    public int all(int what) {
        if (outside(what, 8)) {
            return failed(BAD);
        }
        switch (what) {
            case 0:
                return now.time;
            case 1:
                return now.limit;
            case 2:
                return producersIn(OPEN);
            case 3:
                return producersIn(ENDING);
            case 4:
                return entriesOfAll();
            case 5:
                return markersOfAll();
            case 6:
                return visibleOfAll();
            default:
                return dueOfAll();
        }
    }

    public int back() {
        if (keptCount == 0) {
            return failed(STATE);
        }
        keptCount--;
        keptNext = (keptNext + STATES - 1) % STATES;
        now.copy(kept[keptNext]);
        for (int p = 0; p < PARTS; p++) {
            logs[p].cut(now.lengths[p]);
        }
        return keptCount;
    }

    public int told(int what) {
        if (outside(what, 7)) {
            return failed(BAD);
        }
        if (what < ERRORS) {
            return errors[what];
        }
        return what == 5 ? script.length : keptCount;
    }

    public long digest() {
        long h = SEED;
        for (int what = 0; what <= 6; what++) {
            h = 31 * h + told(what);
        }
        for (int what = 0; what <= 7; what++) {
            h = 31 * h + all(what);
        }
        for (int w = 0; w < WRITERS; w++) {
            for (int what = 0; what <= 8; what++) {
                h = 31 * h + writer(w, what);
            }
        }
        for (int p = 0; p < PARTS; p++) {
            h = mixPart(h, p);
        }
        for (int r = 0; r < READERS; r++) {
            h = mixReader(h, r);
        }
        return h;
    }

    // ---- helpers of the checks

    private static boolean outside(int x, int bound) {
        return x < 0 || x >= bound;
    }

    private boolean wrongAge(int w, int age) {
        return outside(w, WRITERS) || age < 0 || age > now.producers[w].age;
    }

    private int failed(int error) {
        switch (error) {
            case BAD:
                errors[0]++;
                break;
            case FENCED:
                errors[1]++;
                break;
            case STATE:
                errors[2]++;
                break;
            case GAP:
                errors[3]++;
                break;
            default:
                errors[4]++;
                break;
        }
        return error;
    }

    // ---- helpers of the states

    /** Leaves the present state for back(); does() has left one for all its orders, so they leave none. */
    private void keep() {
        if (inOrders) {
            return;
        }
        for (int p = 0; p < PARTS; p++) {
            now.lengths[p] = logs[p].length;
        }
        kept[keptNext].copy(now);
        keptNext = (keptNext + 1) % STATES;
        keptCount = Math.min(keptCount + 1, STATES);
    }

    // ---- helpers of the transactions

    private int endDeed(Producer producer, int commit) {
        producer.mode = ENDING;
        producer.commit = commit;
        int takenPart = producer.schedule(now.time);
        if (takenPart == 0) {
            finishDeed(producer);
        }
        return takenPart;
    }

    private void finishDeed(Producer producer) {
        if (producer.commit == 1) {
            for (int r = 0; r < READERS; r++) {
                now.consumers[r].save(producer.carried, r * PARTS);
            }
        }
        producer.rest();
    }

    private int writeMarkers() {
        int written = 0;
        for (int w = 0; w < WRITERS; w++) {
            Producer producer = now.producers[w];
            int p = producer.partDueAt(now.time);
            if (p != NONE) {
                logs[p].appendMarker(w, producer.age, producer.commit, producer.first[p]);
                producer.due[p] = 0;
                written++;
                if (producer.markersDue() == 0) {
                    finishDeed(producer);
                }
            }
        }
        return written;
    }

    private void abortHanging() {
        for (int w = 0; w < WRITERS; w++) {
            Producer producer = now.producers[w];
            if (producer.mode == OPEN && now.time - producer.opened >= now.limit) {
                producer.age++;
                endDeed(producer, 0);
            }
        }
    }

    // ---- helpers of what is seen and counted

    private int producersIn(int mode) {
        int count = 0;
        for (int w = 0; w < WRITERS; w++) {
            if (now.producers[w].mode == mode) {
                count++;
            }
        }
        return count;
    }

    private int reserve(int p) {
        int count = producersIn(OPEN);
        for (int w = 0; w < WRITERS; w++) {
            if (now.producers[w].due[p] != 0) {
                count++;
            }
        }
        return count;
    }

    /** The producer of the unmarked transaction that keeps the stable position down, or NONE. */
    private int holder(int p) {
        int found = NONE;
        int lowest = ENTRIES;
        for (int w = 0; w < WRITERS; w++) {
            Producer producer = now.producers[w];
            if (producer.holds(p) && producer.first[p] < lowest) {
                found = w;
                lowest = producer.first[p];
            }
        }
        return found;
    }

    private int stable(int p) {
        int w = holder(p);
        return w == NONE ? logs[p].length : now.producers[w].first[p];
    }

    private int entriesOfAll() {
        int count = 0;
        for (int p = 0; p < PARTS; p++) {
            count += logs[p].length;
        }
        return count;
    }

    private int markersOfAll() {
        int count = 0;
        for (int p = 0; p < PARTS; p++) {
            count += logs[p].markers();
        }
        return count;
    }

    private int visibleOfAll() {
        int count = 0;
        for (int p = 0; p < PARTS; p++) {
            count += logs[p].visibleFrom(0, stable(p));
        }
        return count;
    }

    private int dueOfAll() {
        int count = 0;
        for (int w = 0; w < WRITERS; w++) {
            count += now.producers[w].markersDue();
        }
        return count;
    }

    private long mixPart(long start, int p) {
        long h = start;
        for (int what = 0; what <= 5; what++) {
            h = 31 * h + part(p, what);
        }
        for (int place = 0; place < logs[p].length; place++) {
            for (int what = 0; what <= 6; what++) {
                h = 31 * h + entry(p, place, what);
            }
        }
        int deeds = logs[p].abortedDeeds();
        for (int k = 0; k < deeds; k++) {
            for (int what = 0; what <= 2; what++) {
                h = 31 * h + aborted(p, k, what);
            }
        }
        return h;
    }

    private long mixReader(long start, int r) {
        long h = start;
        for (int p = 0; p < PARTS; p++) {
            for (int what = 0; what <= 3; what++) {
                h = 31 * h + reader(r, p, what);
            }
        }
        return h;
    }

    // ---- helper of the text

    private int carryOut(int order) {
        int[] n = script.numbers;
        int at = order * NUMBERS;
        switch (script.letters[order]) {
            case 'b':
                return begins(n[at]);
            case 'o':
                return opens(n[at], n[at + 1]);
            case 's':
                return sends(n[at], n[at + 1], n[at + 2], n[at + 3], n[at + 4]);
            case 'e':
                return ends(n[at], n[at + 1], n[at + 2]);
            case 't':
                return ticks(n[at]);
            case 'r':
                return reads(n[at], n[at + 1]);
            default:
                return carries(n[at], n[at + 1], n[at + 2], n[at + 3]);
        }
    }

    /** A producer and its transaction. */
    private static final class Producer {
        int age = -1;
        int mode = IDLE;
        int commit = 0;
        int opened = 0;
        /** For each partition the first position of the transaction, NONE where it takes no part. */
        final int[] first = {NONE, NONE, NONE};
        /** For each partition the time of its scheduled marker, which is 1 or later; 0 where none is scheduled. */
        final int[] due = {0, 0, 0};
        /** The carried positions, consumer by consumer, NONE where none is carried. */
        final int[] carried = {NONE, NONE, NONE, NONE, NONE, NONE};

        void copy(Producer from) {
            age = from.age;
            mode = from.mode;
            commit = from.commit;
            opened = from.opened;
            System.arraycopy(from.first, 0, first, 0, PARTS);
            System.arraycopy(from.due, 0, due, 0, PARTS);
            System.arraycopy(from.carried, 0, carried, 0, READERS * PARTS);
        }

        int partSet() {
            int set = 0;
            for (int p = 0; p < PARTS; p++) {
                if (first[p] != NONE) {
                    set |= 1 << p;
                }
            }
            return set;
        }

        boolean holds(int p) {
            return first[p] != NONE && (mode == OPEN || due[p] != 0);
        }

        int schedule(int time) {
            int count = 0;
            for (int p = 0; p < PARTS; p++) {
                if (first[p] != NONE) {
                    count++;
                    due[p] = time + count;
                }
            }
            return count;
        }

        int markersDue() {
            int count = 0;
            for (int p = 0; p < PARTS; p++) {
                if (due[p] != 0) {
                    count++;
                }
            }
            return count;
        }

        int partDueAt(int time) {
            for (int p = 0; p < PARTS; p++) {
                if (due[p] != 0 && due[p] == time) {
                    return p;
                }
            }
            return NONE;
        }

        /** Makes the producer idle; its last marker is written, so none is due any more. */
        void rest() {
            mode = IDLE;
            commit = 0;
            for (int p = 0; p < PARTS; p++) {
                first[p] = NONE;
            }
            for (int i = 0; i < READERS * PARTS; i++) {
                carried[i] = NONE;
            }
        }
    }

    /** A consumer's positions, for each partition. */
    private static final class Consumer {
        final int[] place = new int[PARTS];
        final int[] saved = new int[PARTS];

        void copy(Consumer from) {
            System.arraycopy(from.place, 0, place, 0, PARTS);
            System.arraycopy(from.saved, 0, saved, 0, PARTS);
        }

        void save(int[] carried, int start) {
            for (int p = 0; p < PARTS; p++) {
                if (carried[start + p] != NONE) {
                    saved[p] = carried[start + p];
                }
            }
        }

        int returnToSaved() {
            int changed = 0;
            for (int p = 0; p < PARTS; p++) {
                if (place[p] != saved[p]) {
                    changed++;
                    place[p] = saved[p];
                }
            }
            return changed;
        }
    }

    /**
     * What back() restores. Of the logs it holds the lengths alone: a log only grows, and every kept state
     * is one that the present state came from, so its log is the beginning of the present one.
     */
    private static final class State {
        int time = 0;
        int limit = FIRST_LIMIT;
        final int[] lengths = new int[PARTS];
        final Producer[] producers = new Producer[WRITERS];
        final Consumer[] consumers = new Consumer[READERS];

        State() {
            for (int w = 0; w < WRITERS; w++) {
                producers[w] = new Producer();
            }
            for (int r = 0; r < READERS; r++) {
                consumers[r] = new Consumer();
            }
        }

        void copy(State from) {
            time = from.time;
            limit = from.limit;
            System.arraycopy(from.lengths, 0, lengths, 0, PARTS);
            for (int w = 0; w < WRITERS; w++) {
                producers[w].copy(from.producers[w]);
            }
            for (int r = 0; r < READERS; r++) {
                consumers[r].copy(from.consumers[r]);
            }
        }
    }

    /** The entries of a partition. */
    private static final class Log {
        int length = 0;
        final int[] writer = new int[ENTRIES];
        final int[] age = new int[ENTRIES];
        /** The number of a message; NONE tells a marker. */
        final int[] number = new int[ENTRIES];
        final int[] value = new int[ENTRIES];
        /** The first position of the entry's transaction, which names it within the log; NONE for a plain message. */
        final int[] first = new int[ENTRIES];
        /** At the first position of a transaction the position of its marker; NONE if there is none. */
        final int[] mark = new int[ENTRIES];

        void appendMarker(int w, int epoch, int commit, int firstPlace) {
            int place = append(w, epoch, NONE, commit, firstPlace);
            if (firstPlace >= 0 && firstPlace < place) {
                mark[firstPlace] = place;
            }
        }

        /** Gives the position of the new entry; the reserve keeps room for it, and NONE is for a log without room. */
        int append(int w, int epoch, int entryNumber, int entryValue, int firstPlace) {
            if (length >= ENTRIES) {
                return NONE;
            }
            int place = length;
            writer[place] = w;
            age[place] = epoch;
            number[place] = entryNumber;
            value[place] = entryValue;
            first[place] = firstPlace;
            mark[place] = NONE;
            length++;
            return place;
        }

        /** Takes the log back to an earlier length; transactions whose markers are cut off have none again. */
        void cut(int newLength) {
            length = newLength;
            for (int place = 0; place < length; place++) {
                if (mark[place] >= length) {
                    mark[place] = NONE;
                }
            }
        }

        boolean isMarker(int place) {
            return number[place] == NONE;
        }

        /** The last message of a producer with an epoch before a position, or NONE. */
        private int lastBefore(int end, int w, int epoch) {
            for (int place = end - 1; place >= 0; place--) {
                if (writer[place] == w && age[place] == epoch && !isMarker(place)) {
                    return place;
                }
            }
            return NONE;
        }

        int twinOf(int w, int epoch, int messageNumber) {
            int place = length;
            for (int i = 0; i < RECENT; i++) {
                place = lastBefore(place, w, epoch);
                if (place == NONE || number[place] == messageNumber) {
                    return place;
                }
            }
            return NONE;
        }

        int numberDue(int w, int epoch) {
            int place = lastBefore(length, w, epoch);
            return place == NONE ? 0 : number[place] + 1;
        }

        int fate(int place) {
            if (isMarker(place)) {
                return NONE;
            }
            int firstPlace = first[place];
            if (outside(firstPlace, length)) {
                return PLAIN;
            }
            int marker = mark[firstPlace];
            if (outside(marker, length)) {
                return UNDECIDED;
            }
            return value[marker] == 1 ? COMMITTED : ABORTED;
        }

        boolean isVisible(int place, int stable) {
            int fate = fate(place);
            return place < stable && (fate == PLAIN || fate == COMMITTED);
        }

        int visibleFrom(int start, int stable) {
            int count = 0;
            for (int place = start; place < length; place++) {
                if (isVisible(place, stable)) {
                    count++;
                }
            }
            return count;
        }

        int nextVisible(int start, int stable) {
            for (int place = start; place < length; place++) {
                if (isVisible(place, stable)) {
                    return place;
                }
            }
            return NONE;
        }

        int markers() {
            int count = 0;
            for (int place = 0; place < length; place++) {
                if (isMarker(place)) {
                    count++;
                }
            }
            return count;
        }

        private boolean startsAborted(int place) {
            return first[place] == place && fate(place) == ABORTED;
        }

        int abortedDeeds() {
            int count = 0;
            for (int place = 0; place < length; place++) {
                if (startsAborted(place)) {
                    count++;
                }
            }
            return count;
        }

        int abortedFirst(int k) {
            int before = 0;
            for (int place = 0; place < length; place++) {
                if (startsAborted(place)) {
                    if (before == k) {
                        return place;
                    }
                    before++;
                }
            }
            return NONE;
        }
    }

    /** The text, and the orders that the latest search for a fault has read from it. */
    private static final class Script {
        final int[] bytes = new int[BYTES];
        int length = 0;
        final int[] letters = new int[ORDERS];
        final int[] numbers = new int[ORDERS * NUMBERS];
        int orders = 0;
        private boolean inOrder = false;
        private int wanted = 0;
        private int given = 0;
        private int digits = 0;

        int findFault() {
            orders = 0;
            inOrder = false;
            for (int i = 0; i < length; i++) {
                if (!takes(bytes[i])) {
                    return i;
                }
            }
            return inOrder || orders == 0 ? length : NONE;
        }

        private boolean takes(int c) {
            if (c == ' ') {
                digits = 0;
                return true;
            }
            if (!inOrder) {
                return takesLetter(c);
            }
            if (c == ';') {
                return takesEnd();
            }
            return c >= '0' && c <= '9' && takesDigit(c - '0');
        }

        private boolean takesLetter(int c) {
            int count = numbersOf(c);
            if (count == 0 || orders >= ORDERS) {
                return false;
            }
            letters[orders] = c;
            inOrder = true;
            wanted = count;
            given = 0;
            digits = 0;
            return true;
        }

        private boolean takesDigit(int digit) {
            if (digits == 2 || (digits == 0 && given == wanted)) {
                return false;
            }
            int at = orders * NUMBERS + given;
            if (digits == 0) {
                numbers[at] = digit;
                given++;
            } else {
                numbers[at - 1] = 10 * numbers[at - 1] + digit;
            }
            digits++;
            return true;
        }

        private boolean takesEnd() {
            if (given < wanted) {
                return false;
            }
            inOrder = false;
            orders++;
            return true;
        }

        private static int numbersOf(int letter) {
            switch (letter) {
                case 'b':
                case 't':
                    return 1;
                case 'o':
                case 'r':
                    return 2;
                case 'e':
                    return 3;
                case 'c':
                    return 4;
                case 's':
                    return 5;
                default:
                    return 0;
            }
        }
    }
}
