/** A reader of pictures of many threads. ../shared/DOC.md tells what it promises, and in which words. */
public final class StuckHands {
    public static final int NONE = -1;

    private static final int HEAD_IS_TORN = -2;
    private static final int PICTURES = 8;
    private static final int THREADS = 24;
    private static final int LOCKS = 16;
    private static final int LOCKS_OF_A_ROW = 4;
    private static final int CALLS = 12;
    private static final int TAPE_BYTES = 300;
    private static final int FEED_BYTES = 20;
    private static final int THREAD_DIGITS = 2;
    private static final int LOCK_DIGITS = 2;
    private static final int TICK_DIGITS = 4;
    private static final int COUNTER_DIGITS = 4;
    private static final int HIGHEST_NUMBER = 9999;
    private static final int WIDEST_HEAP = 24;
    private static final int FIRST_CALL = 10;
    private static final int RUNS = 0;
    private static final int WAITS = 1;
    private static final int SPINS = 2;
    private static final int FOREIGN = 3;

    private final Tape tape;
    private final Picture[] pictures;
    private final LockOrder lockOrder;
    private int pictureCount;
    private int counterRound;
    private int mostInATick;

    public StuckHands() {
        tape = new Tape();
        pictures = new Picture[PICTURES];
        lockOrder = new LockOrder();
        pictureCount = 0;
        counterRound = 10000;
        mostInATick = 10;
    }

    public int feed(int a, int b, int c, int d, int e) {
        if (tape.length > TAPE_BYTES - FEED_BYTES) {
            return NONE;
        }
        tape.append(a);
        tape.append(b);
        tape.append(c);
        tape.append(d);
        tape.append(e);
        return tape.length;
    }

    public int picture(int n) {
        if (n < 0 || n > tape.length || pictureCount >= PICTURES) {
            return NONE;
        }
        tape.openText(n);
        int tick = tape.readHead();
        if (tick == NONE || isTickTaken(tick)) {
            return HEAD_IS_TORN;
        }
        Picture made = new Picture(tick);
        new RowReader(tape, made).readRows();
        made.followChains();
        lockOrder.learn(made);
        pictures[pictureCount] = made;
        pictureCount++;
        return pictureCount - 1;
    }

    public int torn(int p) {
        Picture seen = pictureAt(p);
        return seen == null ? NONE : seen.tornAt;
    }

    public int look(int p, int t, int what) {
        Row row = rowAt(p, t);
        if (row == null) {
            return NONE;
        }
        switch (what) {
            case 0:
                return row.state;
            case 1:
                return row.counter;
            case 2:
                return row.held;
            case 3:
                return row.waitsAt;
            case 4:
                return row.callCount;
            default:
                return what < FIRST_CALL ? NONE : row.callAt(what - FIRST_CALL);
        }
    }

    public int holder(int p, int l) {
        Picture seen = pictureAt(p);
        return seen == null ? NONE : seen.holderOf(l);
    }

    public int rings(int p) {
        Picture seen = pictureAt(p);
        return seen == null ? NONE : seen.countRings();
    }

    public int ring(int p, int r, int i) {
        Picture seen = pictureAt(p);
        return seen == null ? NONE : seen.threadOfRing(r, i);
    }

    public int foot(int p, int t) {
        Picture seen = pictureAt(p);
        return seen == null ? NONE : seen.footOf(t);
    }

    public int through(int p, int t) {
        Picture seen = pictureAt(p);
        return seen == null || seen.rowOf(t) == null ? NONE : seen.countThroughThread(t);
    }

    public int weight(int p, int l) {
        Picture seen = pictureAt(p);
        return seen == null || !isLock(l) ? NONE : seen.countThroughLock(l);
    }

    public int guilty(int p) {
        Picture seen = pictureAt(p);
        return seen == null ? NONE : seen.guiltyLock();
    }

    public int stuck(int i) {
        int place = 0;
        for (int t = 0; t < THREADS; t++) {
            if (isStuck(t)) {
                if (place == i) {
                    return t;
                }
                place++;
            }
        }
        return NONE;
    }

    public int broken(int i) {
        return lockOrder.lockOfRing(i);
    }

    public boolean meter(int m, int v) {
        if (m < 2 || m > 10000 || v < 0 || v > 100) {
            return false;
        }
        counterRound = m;
        mostInATick = v;
        return true;
    }

    public int work(int t, int p, int q, int what) {
        Picture one = pictureAt(p);
        Picture other = pictureAt(q);
        if (one == null || other == null || p == q) {
            return NONE;
        }
        return one.tick < other.tick ? workBetween(one, other, t, what) : workBetween(other, one, t, what);
    }

    public int distance(int p, int t, int u) {
        Picture seen = pictureAt(p);
        if (seen == null || seen.rowOf(t) == null || seen.rowOf(u) == null) {
            return NONE;
        }
        return seen.distanceOf(t, u);
    }

    public int heaps(int p, int d) {
        Picture seen = pictureAt(p);
        return seen == null || !isHeapWidth(d) ? NONE : seen.countHeaps(d);
    }

    public int heap(int p, int d, int t) {
        Picture seen = pictureAt(p);
        if (seen == null || seen.rowOf(t) == null || !isHeapWidth(d)) {
            return NONE;
        }
        return lowestOf(seen.heapOf(t, d));
    }

    public int order(int i) {
        for (int p = 0; p < pictureCount; p++) {
            Picture seen = pictureAt(p);
            if (seen != null && countAhead(seen.tick) == i) {
                return p;
            }
        }
        return NONE;
    }

    public int count(int p, int what) {
        if (p == NONE) {
            return countOfReader(what);
        }
        Picture seen = pictureAt(p);
        if (seen == null) {
            return NONE;
        }
        switch (what) {
            case 0:
                return seen.tick;
            case 1:
                return seen.threadCount;
            case 2:
                return seen.waitingCount;
            case 3:
                return seen.heldCount;
            default:
                return NONE;
        }
    }

    private int workBetween(Picture ahead, Picture behind, int t, int what) {
        Row start = ahead.rowOf(t);
        Row end = behind.rowOf(t);
        if (start == null || end == null) {
            return NONE;
        }
        int least = Math.floorMod(end.counter - start.counter, counterRound);
        int most = mostInATick * (behind.tick - ahead.tick);
        int numbers = least > most ? 0 : (most - least) / counterRound + 1;
        if (what == 2) {
            return numbers;
        }
        if (numbers == 0 || what < 0 || what > 2) {
            return NONE;
        }
        return what == 0 ? least : least + (numbers - 1) * counterRound;
    }

    private int countOfReader(int what) {
        switch (what) {
            case 0:
                return pictureCount;
            case 1:
                return tape.length;
            case 2:
                return counterRound;
            case 3:
                return mostInATick;
            default:
                return NONE;
        }
    }

    private Picture pictureAt(int p) {
        return p < 0 || p >= pictureCount ? null : pictures[p];
    }

    private Row rowAt(int p, int t) {
        Picture seen = pictureAt(p);
        return seen == null ? null : seen.rowOf(t);
    }

    private boolean isTickTaken(int tick) {
        for (Picture seen : pictures) {
            if (seen != null && seen.tick == tick) {
                return true;
            }
        }
        return false;
    }

    private int countAhead(int tick) {
        int ahead = 0;
        for (Picture seen : pictures) {
            if (seen != null && seen.tick < tick) {
                ahead++;
            }
        }
        return ahead;
    }

    private boolean isStuck(int t) {
        Row first = null;
        int rows = 0;
        for (int p = 0; p < pictureCount; p++) {
            Row row = rowAt(p, t);
            if (row != null) {
                if (first == null) {
                    first = row;
                } else if (!first.isLike(row)) {
                    return false;
                }
                rows++;
            }
        }
        return rows >= 2;
    }

    private static boolean isThread(int t) {
        return t >= 0 && t < THREADS;
    }

    private static boolean isLock(int l) {
        return l >= 0 && l < LOCKS;
    }

    private static boolean isHeapWidth(int d) {
        return d >= 0 && d <= WIDEST_HEAP;
    }

    private static boolean isDigit(int character) {
        return character >= '0' && character <= '9';
    }

    private static boolean isLetter(int character) {
        return character >= 'a' && character <= 'z';
    }

    private static boolean hasBit(int bits, int place) {
        return (bits >> place & 1) != 0;
    }

    private static int lowestOf(int threads) {
        for (int t = 0; t < THREADS; t++) {
            if (hasBit(threads, t)) {
                return t;
            }
        }
        return NONE;
    }

    /** The bytes that were fed, and a cursor in the text that they begin with. A text that is torn is so at the cursor. */
    private static final class Tape {
        private static final int END = -1;

        private final byte[] bytes;
        private int length;
        private int textLength;
        private int at;

        Tape() {
            bytes = new byte[TAPE_BYTES];
        }

        void append(int word) {
            for (int shift = 24; shift >= 0 && length < TAPE_BYTES; shift -= 8) {
                bytes[length] = (byte) (word >> shift);
                length++;
            }
        }

        /** The bytes of the text stay readable though the tape counts as empty: nothing is fed while it is read. */
        void openText(int n) {
            textLength = Math.min(n, TAPE_BYTES);
            at = 0;
            length = 0;
        }

        /** Bytes count from 0 up, so that none of them is taken for the end. */
        int next() {
            return at < 0 || at >= textLength ? END : bytes[at] & 255;
        }

        boolean isAtEndOfPart() {
            int here = next();
            return here == END || here == ';';
        }

        boolean take(char wanted) {
            if (next() != wanted) {
                return false;
            }
            at++;
            return true;
        }

        /** The number at the cursor, or NONE with the cursor where the text is torn. */
        int takeNumber(int mostDigits, int greatest) {
            int start = at;
            int value = 0;
            int digits = 0;
            while (digits < mostDigits && isDigit(next())) {
                value = value * 10 + next() - '0';
                at++;
                digits++;
            }
            if (digits == 0 || isDigit(next())) {
                return NONE;
            }
            return value > greatest ? tearAt(start) : value;
        }

        int tearAt(int place) {
            at = place;
            return NONE;
        }

        /** The tick, or NONE if the head is torn. */
        int readHead() {
            if (!take('t')) {
                return NONE;
            }
            int tick = takeNumber(TICK_DIGITS, HIGHEST_NUMBER);
            return isAtEndOfPart() ? tick : NONE;
        }
    }

    /** Reads the rows behind a head. What can't be read leaves the tape's cursor where the text is torn. */
    private static final class RowReader {
        private final Tape tape;
        private final Picture picture;

        RowReader(Tape tape, Picture picture) {
            this.tape = tape;
            this.picture = picture;
        }

        /** No picture has more than THREADS rows: one more than that is torn at its thread. */
        void readRows() {
            for (int i = 0; i <= THREADS && tape.take(';'); i++) {
                Row row = new Row();
                if (!readRow(row)) {
                    picture.tornAt = tape.at;
                    return;
                }
                picture.keep(row);
            }
        }

        private boolean readRow(Row row) {
            return readThread(row)
                && readState(row)
                && readCounter(row)
                && readHeld(row)
                && readWait(row)
                && readCalls(row)
                && tape.isAtEndOfPart();
        }

        private boolean readThread(Row row) {
            int start = tape.at;
            row.thread = tape.takeNumber(THREAD_DIGITS, THREADS - 1);
            if (picture.rowOf(row.thread) != null) {
                row.thread = tape.tearAt(start);
            }
            return row.thread != NONE;
        }

        private boolean readState(Row row) {
            if (tape.take('R')) {
                row.state = RUNS;
            } else if (tape.take('W')) {
                row.state = WAITS;
            } else if (tape.take('S')) {
                row.state = SPINS;
            } else if (tape.take('F')) {
                row.state = FOREIGN;
            } else {
                return false;
            }
            return true;
        }

        private boolean readCounter(Row row) {
            row.counter = tape.takeNumber(COUNTER_DIGITS, HIGHEST_NUMBER);
            return row.counter != NONE;
        }

        private boolean readHeld(Row row) {
            if (!tape.take('h')) {
                return true;
            }
            boolean stands = readHeldLock(row);
            for (int i = 1; i < LOCKS_OF_A_ROW && stands && tape.take(','); i++) {
                stands = readHeldLock(row);
            }
            return stands;
        }

        private boolean readHeldLock(Row row) {
            int start = tape.at;
            int lock = tape.takeNumber(LOCK_DIGITS, LOCKS - 1);
            if (lock != NONE && (row.holds(lock) || picture.holderOf(lock) != NONE)) {
                lock = tape.tearAt(start);
            }
            if (lock == NONE) {
                return false;
            }
            row.held |= 1 << lock;
            return true;
        }

        /** A w that must not be there is left to the end of the row, where nothing takes it. */
        private boolean readWait(Row row) {
            if (row.state != WAITS && row.state != SPINS) {
                return true;
            }
            if (!tape.take('w')) {
                return false;
            }
            row.waitsAt = tape.takeNumber(LOCK_DIGITS, LOCKS - 1);
            return row.waitsAt != NONE;
        }

        private boolean readCalls(Row row) {
            if (!tape.take('c')) {
                return true;
            }
            for (int i = 0; i < CALLS && isLetter(tape.next()); i++) {
                row.addCall(tape.next());
                tape.at++;
            }
            return row.callCount > 0;
        }
    }

    /** What a picture tells of one thread. */
    private static final class Row {
        private final byte[] calls;
        private int thread;
        private int state;
        private int counter;
        private int held;
        private int waitsAt;
        private int callCount;

        Row() {
            calls = new byte[CALLS];
            thread = NONE;
            waitsAt = NONE;
        }

        void addCall(int call) {
            if (callCount < CALLS) {
                calls[callCount] = (byte) call;
                callCount++;
            }
        }

        int callAt(int i) {
            return i < 0 || i >= callCount ? NONE : calls[i];
        }

        boolean holds(int lock) {
            return hasBit(held, lock);
        }

        boolean isWaiting() {
            return waitsAt != NONE;
        }

        int waitsAtBit() {
            return isWaiting() ? 1 << waitsAt : 0;
        }

        boolean isLike(Row other) {
            return state == other.state
                && counter == other.counter
                && held == other.held
                && waitsAt == other.waitsAt
                && hasCallsOf(other);
        }

        private boolean hasCallsOf(Row other) {
            if (callCount != other.callCount) {
                return false;
            }
            for (int i = 0; i < callCount; i++) {
                if (calls[i] != other.calls[i]) {
                    return false;
                }
            }
            return true;
        }

        /** Works in costs, a row of CALLS + 1 that the caller lends, so that no array is made for each pair. */
        int distanceTo(Row other, int[] costs) {
            for (int j = 0; j <= other.callCount; j++) {
                costs[j] = j;
            }
            for (int i = 1; i <= callCount; i++) {
                int aslant = costs[0];
                costs[0] = i;
                for (int j = 1; j <= other.callCount; j++) {
                    int changed = calls[i - 1] == other.calls[j - 1] ? aslant : aslant + 1;
                    aslant = costs[j];
                    costs[j] = Math.min(changed, Math.min(aslant, costs[j - 1]) + 1);
                }
            }
            return costs[other.callCount];
        }
    }

    /** The rows of one text that stand. Sets of threads and of locks are ints, a bit for each. */
    private static final class Picture {
        private final int tick;
        private final Row[] rows;
        private final int[] holders;
        private final int[] chains;
        private final int[] chainLocks;
        private final byte[] distances;
        private final int[] costs;
        private int tornAt;
        private int threadCount;
        private int waitingCount;
        private int heldCount;

        Picture(int tick) {
            this.tick = tick;
            rows = new Row[THREADS];
            holders = new int[LOCKS];
            for (int lock = 0; lock < LOCKS; lock++) {
                holders[lock] = NONE;
            }
            chains = new int[THREADS];
            chainLocks = new int[THREADS];
            distances = new byte[THREADS * THREADS];
            costs = new int[CALLS + 1];
            tornAt = NONE;
        }

        void keep(Row row) {
            if (!isThread(row.thread)) {
                return;
            }
            measureFrom(row);
            rows[row.thread] = row;
            threadCount++;
            if (row.isWaiting()) {
                waitingCount++;
            }
            for (int lock = 0; lock < LOCKS; lock++) {
                if (row.holds(lock)) {
                    holders[lock] = row.thread;
                    heldCount++;
                }
            }
        }

        /** Distances are dear and never change: they are worked out once, when a row comes, not in each call. */
        private void measureFrom(Row row) {
            for (Row other : rows) {
                if (other != null) {
                    byte apart = (byte) row.distanceTo(other, costs);
                    distances[row.thread * THREADS + other.thread] = apart;
                    distances[other.thread * THREADS + row.thread] = apart;
                }
            }
        }

        Row rowOf(int t) {
            return isThread(t) ? rows[t] : null;
        }

        int holderOf(int lock) {
            return isLock(lock) ? holders[lock] : NONE;
        }

        /** Whom t waits for, or NONE. */
        int awaitedBy(int t) {
            Row row = rowOf(t);
            return row == null ? NONE : holderOf(row.waitsAt);
        }

        int countRings() {
            int found = 0;
            for (int t = 0; t < THREADS; t++) {
                if (sizeOfRingFrom(t) > 0) {
                    found++;
                }
            }
            return found;
        }

        /** The size of the ring whose lowest thread is t; 0 if there is none such. */
        private int sizeOfRingFrom(int t) {
            int at = t;
            for (int size = 1; size <= THREADS; size++) {
                at = awaitedBy(at);
                if (at == t) {
                    return size;
                }
                if (at < t) {
                    return 0;
                }
            }
            return 0;
        }

        int threadOfRing(int r, int i) {
            int place = 0;
            for (int t = 0; t < THREADS; t++) {
                int size = sizeOfRingFrom(t);
                if (size > 0) {
                    if (place == r) {
                        return i < 0 || i >= size ? NONE : walkFrom(t, i);
                    }
                    place++;
                }
            }
            return NONE;
        }

        private int walkFrom(int t, int steps) {
            int at = t;
            for (int i = 0; i < steps; i++) {
                at = awaitedBy(at);
            }
            return at;
        }

        /** A way of more steps than there are threads goes round in a ring, which has no foot. */
        int footOf(int t) {
            Row row = rowOf(t);
            if (row == null || !row.isWaiting()) {
                return NONE;
            }
            int last = t;
            for (int step = 0; step < THREADS; step++) {
                int following = awaitedBy(last);
                if (following == NONE) {
                    return last;
                }
                last = following;
            }
            return NONE;
        }

        /** To be called when all rows stand: a row that comes later may make chains longer. */
        void followChains() {
            for (int t = 0; t < THREADS; t++) {
                followChainOf(t);
            }
        }

        private void followChainOf(int t) {
            Row row = rows[t];
            for (int step = 0; step < THREADS && row != null && !hasBit(chains[t], row.thread); step++) {
                chains[t] |= 1 << row.thread;
                chainLocks[t] |= row.waitsAtBit();
                row = rowOf(awaitedBy(row.thread));
            }
        }

        int countThroughThread(int t) {
            int found = 0;
            for (int other = 0; other < THREADS; other++) {
                if (other != t && hasBit(chains[other], t)) {
                    found++;
                }
            }
            return found;
        }

        int countThroughLock(int lock) {
            int found = 0;
            for (int locks : chainLocks) {
                if (hasBit(locks, lock)) {
                    found++;
                }
            }
            return found;
        }

        int guiltyLock() {
            int guiltiest = NONE;
            int most = 0;
            for (int lock = 0; lock < LOCKS; lock++) {
                int found = countThroughLock(lock);
                if (found > most) {
                    guiltiest = lock;
                    most = found;
                }
            }
            return guiltiest;
        }

        int distanceOf(int t, int u) {
            return isThread(t) && isThread(u) ? distances[t * THREADS + u] : NONE;
        }

        int countHeaps(int d) {
            int found = 0;
            int heaped = 0;
            for (int t = 0; t < THREADS; t++) {
                if (rows[t] != null && !hasBit(heaped, t)) {
                    heaped |= heapOf(t, d);
                    found++;
                }
            }
            return found;
        }

        /** The threads of t's heap: each round asks for the neighbours of one thread that was not asked yet. */
        int heapOf(int t, int d) {
            int heap = 1 << t;
            int asked = 0;
            for (int round = 0; round < THREADS && heap != asked; round++) {
                int from = lowestOf(heap & ~asked);
                asked |= 1 << from;
                heap |= neighboursOf(from, d);
            }
            return heap;
        }

        private int neighboursOf(int t, int d) {
            int near = 0;
            for (int u = 0; u < THREADS; u++) {
                if (rows[u] != null && distanceOf(t, u) <= d) {
                    near |= 1 << u;
                }
            }
            return near;
        }
    }

    /** Which lock is ahead of which in all pictures, and the broken order in that. */
    private static final class LockOrder {
        private static final int NO_WAY = LOCKS;

        private final int[] behind;
        private final int[] wayBack;
        private final int[] ring;
        private int ringSize;

        LockOrder() {
            behind = new int[LOCKS];
            wayBack = new int[LOCKS];
            ring = new int[LOCKS];
        }

        /** Pictures never go, so what was learned stays true, and the ring is sought only when one comes. */
        void learn(Picture picture) {
            for (Row row : picture.rows) {
                if (row != null && row.isWaiting()) {
                    learnRow(row);
                }
            }
            findRing();
        }

        int lockOfRing(int i) {
            return i < 0 || i >= ringSize ? NONE : ring[i];
        }

        private void learnRow(Row row) {
            for (int lock = 0; lock < LOCKS; lock++) {
                if (row.holds(lock) && lock != row.waitsAt) {
                    behind[lock] |= 1 << row.waitsAt;
                }
            }
        }

        /** Lowest locks go upwards, so that of like rings the one with the least first lock is kept. */
        private void findRing() {
            ringSize = 0;
            for (int lowest = 0; lowest < LOCKS; lowest++) {
                measureWaysBack(lowest);
                int size = sizeOfRingFrom(lowest);
                if (size <= LOCKS && (ringSize == 0 || size < ringSize)) {
                    keepRing(lowest, size);
                }
            }
        }

        /** The steps from each lock to the lowest one, over locks that are above it alone. */
        private void measureWaysBack(int lowest) {
            for (int lock = 0; lock < LOCKS; lock++) {
                wayBack[lock] = NO_WAY;
            }
            wayBack[lowest] = 0;
            int reached = 1 << lowest;
            for (int steps = 1; steps < LOCKS && reached != 0; steps++) {
                reached = stepBack(lowest, reached, steps);
            }
        }

        private int stepBack(int lowest, int reached, int steps) {
            int found = 0;
            for (int lock = lowest + 1; lock < LOCKS; lock++) {
                if (wayBack[lock] == NO_WAY && (behind[lock] & reached) != 0) {
                    wayBack[lock] = steps;
                    found |= 1 << lock;
                }
            }
            return found;
        }

        /** Above LOCKS if no ring has this lowest lock. */
        private int sizeOfRingFrom(int lowest) {
            int shortest = NO_WAY;
            for (int lock = lowest + 1; lock < LOCKS; lock++) {
                if (hasBit(behind[lowest], lock)) {
                    shortest = Math.min(shortest, wayBack[lock]);
                }
            }
            return shortest + 1;
        }

        /** Of the locks that lie on a shortest way back the lowest is taken each time: that makes the least ring. */
        private void keepRing(int lowest, int size) {
            int at = lowest;
            ring[0] = lowest;
            for (int place = 1; place < size; place++) {
                at = lowestBehind(at, size - place);
                ring[place] = at;
            }
            ringSize = size;
        }

        private int lowestBehind(int from, int steps) {
            for (int lock = 0; lock < LOCKS; lock++) {
                if (hasBit(behind[from], lock) && wayBack[lock] == steps) {
                    return lock;
                }
            }
            return from;
        }
    }
}
