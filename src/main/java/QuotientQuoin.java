/**
 * Four quotient filters with counters: approximate multisets of keys that store only a
 * 12-bit fingerprint of each key, in tables with linear probing whose slots have a
 * remainder, a counter and three flag bits.
 */
public final class QuotientQuoin {
    public static final int NONE = -1;

    private static final int FILTERS = 4;
    private static final int FINGERPRINT_BITS = 12;
    private static final int FINGERPRINTS = 1 << FINGERPRINT_BITS;
    private static final int LEAST_BITS = 3;
    private static final int MOST_BITS = 8;
    private static final int MOST_SLOTS = 1 << MOST_BITS;
    private static final int MOST_TIMES = 100;
    private static final int FULL_COUNTER = 7;

    private final Table[] tables;

    // Rows that the calls use again and again: what they hold is of no use after a call.
    private final Bag mine;
    private final Bag theirs;
    private final Bag result;
    private final Lists lists;

    public QuotientQuoin() {
        tables = new Table[FILTERS];
        for (int i = 0; i < tables.length; i++) {
            tables[i] = new Table();
        }
        mine = new Bag();
        theirs = new Bag();
        result = new Bag();
        lists = new Lists();
    }

    // ---- keys

    public int fingerprint(int key) {
        return (key * -1640531527) >>> (32 - FINGERPRINT_BITS);
    }

    public int insert(int filter, int key) throws IndexOutOfBoundsException, IllegalStateException {
        Table table = tableOf(filter);
        return putIn(table, fingerprint(key), 1);
    }

    public boolean remove(int filter, int key) throws IndexOutOfBoundsException {
        Table table = tableOf(filter);
        return takeOut(table, fingerprint(key), 1) == 1;
    }

    public int count(int filter, int key) throws IndexOutOfBoundsException {
        Table table = tableOf(filter);
        return table.countInRun(fingerprint(key));
    }

    // ---- fingerprints

    public int add(int filter, int fingerprint, int times)
            throws IndexOutOfBoundsException, IllegalArgumentException, IllegalStateException {
        Table table = tableOf(filter);
        checkFingerprint(fingerprint);
        checkTimes(times);
        return putIn(table, fingerprint, times);
    }

    public int take(int filter, int fingerprint, int times)
            throws IndexOutOfBoundsException, IllegalArgumentException {
        Table table = tableOf(filter);
        checkFingerprint(fingerprint);
        checkTimes(times);
        return takeOut(table, fingerprint, times);
    }

    public int countOf(int filter, int fingerprint)
            throws IndexOutOfBoundsException, IllegalArgumentException {
        Table table = tableOf(filter);
        checkFingerprint(fingerprint);
        return table.countInRun(fingerprint);
    }

    public int countInLists(int filter, int fingerprint)
            throws IndexOutOfBoundsException, IllegalArgumentException {
        Table table = tableOf(filter);
        checkFingerprint(fingerprint);
        lists.makeFrom(table);
        return lists.sumFor(table, fingerprint);
    }

    public int lookedAt(int filter, int fingerprint)
            throws IndexOutOfBoundsException, IllegalArgumentException {
        Table table = tableOf(filter);
        checkFingerprint(fingerprint);
        return table.looksFor(fingerprint);
    }

    // ---- whole filters

    public void clear(int filter) throws IndexOutOfBoundsException {
        tableOf(filter).wipe();
    }

    public int grow(int filter) throws IndexOutOfBoundsException, IllegalStateException {
        Table table = tableOf(filter);
        if (table.bits >= MOST_BITS) {
            throw new IllegalStateException("the filter has the most slots already");
        }
        return resize(table, table.bits + 1);
    }

    public int shrink(int filter) throws IndexOutOfBoundsException, IllegalStateException {
        Table table = tableOf(filter);
        if (table.bits <= LEAST_BITS) {
            throw new IllegalStateException("the filter has the fewest slots already");
        }
        return resize(table, table.bits - 1);
    }

    public int merge(int filter, int other) throws IndexOutOfBoundsException, IllegalStateException {
        Table table = tableOf(filter);
        Table otherTable = tableOf(other);
        table.readInto(mine);
        otherTable.readInto(theirs);
        result.becomeSum(mine, theirs);
        checkFits(result, table.bits);
        table.fill(table.bits, result);
        return table.usedSlots();
    }

    public int intersect(int filter, int other) throws IndexOutOfBoundsException {
        Table table = tableOf(filter);
        Table otherTable = tableOf(other);
        table.readInto(mine);
        otherTable.readInto(theirs);
        result.becomeLesser(mine, theirs);
        table.fill(table.bits, result);
        return table.usedSlots();
    }

    public boolean isSame(int filter, int other) throws IndexOutOfBoundsException {
        Table table = tableOf(filter);
        Table otherTable = tableOf(other);
        table.readInto(mine);
        otherTable.readInto(theirs);
        return mine.hasSameAs(theirs);
    }

    // ---- what a filter has

    public int slots(int filter) throws IndexOutOfBoundsException {
        return tableOf(filter).allSlots();
    }

    public int entries(int filter) throws IndexOutOfBoundsException {
        return tableOf(filter).usedSlots();
    }

    public int distinct(int filter) throws IndexOutOfBoundsException {
        tableOf(filter).readInto(mine);
        return mine.size;
    }

    public int total(int filter) throws IndexOutOfBoundsException {
        return tableOf(filter).sumOfCounters();
    }

    public int fingerprintAt(int filter, int place) throws IndexOutOfBoundsException {
        tableOf(filter).readInto(mine);
        if (place < 0 || place >= mine.size) {
            throw new IndexOutOfBoundsException("the filter has no such place");
        }
        return mine.fingerprints[place];
    }

    // ---- slots

    public int remainderAt(int filter, int slot) throws IndexOutOfBoundsException {
        Table table = tableOf(filter);
        checkSlot(table, slot);
        return table.isEmpty(slot) ? NONE : table.remainders[slot];
    }

    public int counterAt(int filter, int slot) throws IndexOutOfBoundsException {
        Table table = tableOf(filter);
        checkSlot(table, slot);
        return table.counters[slot];
    }

    public int quotientAt(int filter, int slot) throws IndexOutOfBoundsException {
        Table table = tableOf(filter);
        checkSlot(table, slot);
        return table.isEmpty(slot) ? NONE : table.quotientOfEntry(slot);
    }

    public boolean isOccupied(int filter, int slot) throws IndexOutOfBoundsException {
        Table table = tableOf(filter);
        checkSlot(table, slot);
        return table.occupied[slot];
    }

    public boolean isContinuation(int filter, int slot) throws IndexOutOfBoundsException {
        Table table = tableOf(filter);
        checkSlot(table, slot);
        return table.continuation[slot];
    }

    public boolean isShifted(int filter, int slot) throws IndexOutOfBoundsException {
        Table table = tableOf(filter);
        checkSlot(table, slot);
        return table.shifted[slot];
    }

    public int runStart(int filter, int quotient) throws IndexOutOfBoundsException {
        Table table = tableOf(filter);
        checkSlot(table, quotient);
        return table.firstOfRun(quotient);
    }

    public int runLength(int filter, int quotient) throws IndexOutOfBoundsException {
        Table table = tableOf(filter);
        checkSlot(table, quotient);
        int first = table.firstOfRun(quotient);
        return first == NONE ? 0 : table.lengthOfRun(first);
    }

    public int clusterStart(int filter, int slot) throws IndexOutOfBoundsException {
        Table table = tableOf(filter);
        checkSlot(table, slot);
        return table.isEmpty(slot) ? NONE : table.firstOfCluster(slot);
    }

    public int longestCluster(int filter) throws IndexOutOfBoundsException {
        return tableOf(filter).lengthOfLongestCluster();
    }

    // ---- what the calls share

    private Table tableOf(int filter) throws IndexOutOfBoundsException {
        if (filter < 0 || filter >= tables.length) {
            throw new IndexOutOfBoundsException("no such filter");
        }
        return tables[filter];
    }

    // Quotients have the same numbers as slots, so this looks at both.
    private static void checkSlot(Table table, int slot) throws IndexOutOfBoundsException {
        if (slot < 0 || slot >= table.allSlots()) {
            throw new IndexOutOfBoundsException("no such slot or quotient");
        }
    }

    private static void checkFingerprint(int fingerprint) throws IllegalArgumentException {
        if (fingerprint < 0 || fingerprint >= FINGERPRINTS) {
            throw new IllegalArgumentException("a fingerprint is 0 to 4095");
        }
    }

    private static void checkTimes(int times) throws IllegalArgumentException {
        if (times < 1 || times > MOST_TIMES) {
            throw new IllegalArgumentException("times is 1 to 100");
        }
    }

    private static void checkFits(Bag bag, int bits) throws IllegalStateException {
        if (bag.neededSlots() > mostEntries(bits)) {
            throw new IllegalStateException("more than seven eighths of the slots would hold entries");
        }
    }

    private static int mostEntries(int bits) {
        return (7 << bits) >> 3;
    }

    private static int entriesFor(int count) {
        return (count + FULL_COUNTER - 1) / FULL_COUNTER;
    }

    private int putIn(Table table, int fingerprint, int times) throws IllegalStateException {
        table.readInto(mine);
        theirs.drop();
        theirs.append(fingerprint, times);
        result.becomeSum(mine, theirs);
        checkFits(result, table.bits);
        table.fill(table.bits, result);
        return table.countInRun(fingerprint);
    }

    private int takeOut(Table table, int fingerprint, int times) {
        int taken = Math.min(times, table.countInRun(fingerprint));
        if (taken > 0) {
            table.readInto(mine);
            result.becomeRest(mine, fingerprint, taken);
            table.fill(table.bits, result);
        }
        return taken;
    }

    private int resize(Table table, int bits) throws IllegalStateException {
        table.readInto(mine);
        checkFits(mine, bits);
        table.fill(bits, mine);
        return table.allSlots();
    }

    /** Different fingerprints, the least one first, each with its count. */
    private static final class Bag {
        final int[] fingerprints;
        final int[] counts;
        int size;

        // A sum of two filters is made before it is known whether it fits.
        Bag() {
            fingerprints = new int[2 * MOST_SLOTS];
            counts = new int[2 * MOST_SLOTS];
        }

        void drop() {
            size = 0;
        }

        // No fingerprint appended before may be greater.
        void append(int fingerprint, int count) {
            int last = size - 1;
            if (last >= 0 && fingerprints[last] == fingerprint) {
                counts[last] += count;
            } else if (count > 0 && size < fingerprints.length) {
                fingerprints[size] = fingerprint;
                counts[size] = count;
                size++;
            }
        }

        void becomeSum(Bag one, Bag two) {
            drop();
            int j = 0;
            for (int i = 0; i < one.size; i++) {
                int next = two.placeNotBelow(one.fingerprints[i], j);
                appendPart(two, j, next);
                append(one.fingerprints[i], one.counts[i]);
                j = next;
            }
            appendPart(two, j, two.size);
        }

        void appendPart(Bag other, int from, int end) {
            for (int i = from; i < end; i++) {
                append(other.fingerprints[i], other.counts[i]);
            }
        }

        void becomeLesser(Bag one, Bag two) {
            drop();
            int j = 0;
            for (int i = 0; i < one.size; i++) {
                int fingerprint = one.fingerprints[i];
                j = two.placeNotBelow(fingerprint, j);
                if (j < two.size && two.fingerprints[j] == fingerprint) {
                    append(fingerprint, Math.min(one.counts[i], two.counts[j]));
                }
            }
        }

        void becomeRest(Bag whole, int fingerprint, int times) {
            drop();
            for (int i = 0; i < whole.size; i++) {
                int taken = whole.fingerprints[i] == fingerprint ? times : 0;
                append(whole.fingerprints[i], whole.counts[i] - taken);
            }
        }

        int placeNotBelow(int fingerprint, int from) {
            int place = from;
            while (place < size && fingerprints[place] < fingerprint) {
                place++;
            }
            return place;
        }

        boolean hasSameAs(Bag other) {
            if (size != other.size) {
                return false;
            }
            for (int i = 0; i < size; i++) {
                if (fingerprints[i] != other.fingerprints[i] || counts[i] != other.counts[i]) {
                    return false;
                }
            }
            return true;
        }

        int neededSlots() {
            int needed = 0;
            for (int i = 0; i < size; i++) {
                needed += entriesFor(counts[i]);
            }
            return needed;
        }
    }

    /**
     * The slots of one filter. Rows are as long as the largest filter needs; only the first
     * 2^bits elements of each are in use. A slot is empty when its counter is 0. What goes
     * round the table ends because at least one eighth of the slots is empty; the counters of
     * its steps only make that plain.
     */
    private static final class Table {
        final int[] remainders;
        final int[] counters;
        final boolean[] occupied;
        final boolean[] continuation;
        final boolean[] shifted;
        int bits;

        Table() {
            remainders = new int[MOST_SLOTS];
            counters = new int[MOST_SLOTS];
            occupied = new boolean[MOST_SLOTS];
            continuation = new boolean[MOST_SLOTS];
            shifted = new boolean[MOST_SLOTS];
            bits = LEAST_BITS;
        }

        int allSlots() {
            return 1 << bits;
        }

        boolean isEmpty(int slot) {
            return counters[slot] == 0;
        }

        // Going round: the slot after the last one is slot 0, that before slot 0 the last one.
        int wrap(int slot) {
            return slot & (allSlots() - 1);
        }

        int quotientOf(int fingerprint) {
            return fingerprint >> (FINGERPRINT_BITS - bits);
        }

        int remainderOf(int fingerprint) {
            return fingerprint & ((1 << (FINGERPRINT_BITS - bits)) - 1);
        }

        int fingerprintOf(int quotient, int remainder) {
            return (quotient << (FINGERPRINT_BITS - bits)) | remainder;
        }

        int usedSlots() {
            int used = 0;
            for (int slot = 0; slot < allSlots(); slot++) {
                used += isEmpty(slot) ? 0 : 1;
            }
            return used;
        }

        int sumOfCounters() {
            int sum = 0;
            for (int slot = 0; slot < allSlots(); slot++) {
                sum += counters[slot];
            }
            return sum;
        }

        int someEmptySlot() {
            int slot = 0;
            while (slot < allSlots() - 1 && !isEmpty(slot)) {
                slot++;
            }
            return slot;
        }

        // The given slot itself if no other one is occupied.
        int occupiedAfter(int slot) {
            for (int step = 1; step < allSlots(); step++) {
                int next = wrap(slot + step);
                if (occupied[next]) {
                    return next;
                }
            }
            return slot;
        }

        int firstOfCluster(int slot) {
            int first = slot;
            for (int step = 0; step < allSlots() && shifted[first]; step++) {
                first = wrap(first - 1);
            }
            return first;
        }

        // The first run of a cluster is not shifted, so its quotient is its slot; from there
        // each run is that of the next occupied slot.
        int firstOfRun(int quotient) {
            if (!occupied[quotient]) {
                return NONE;
            }
            int slot = firstOfCluster(quotient);
            int reached = slot;
            for (int step = 0; step < allSlots() && reached != quotient; step++) {
                slot = wrap(slot + lengthOfRun(slot));
                reached = occupiedAfter(reached);
            }
            return slot;
        }

        int lengthOfRun(int first) {
            int length = 1;
            while (length < allSlots() && continuation[wrap(first + length)]) {
                length++;
            }
            return length;
        }

        int quotientOfEntry(int slot) {
            int at = firstOfCluster(slot);
            int quotient = at;
            for (int step = 0; step < allSlots() && at != slot; step++) {
                at = wrap(at + 1);
                if (!continuation[at]) {
                    quotient = occupiedAfter(quotient);
                }
            }
            return quotient;
        }

        int countInRun(int fingerprint) {
            int first = firstOfRun(quotientOf(fingerprint));
            if (first == NONE) {
                return 0;
            }
            int remainder = remainderOf(fingerprint);
            int length = lengthOfRun(first);
            int sum = 0;
            for (int i = 0; i < length; i++) {
                int slot = wrap(first + i);
                sum += remainders[slot] == remainder ? counters[slot] : 0;
            }
            return sum;
        }

        int looksFor(int fingerprint) {
            int first = firstOfRun(quotientOf(fingerprint));
            if (first == NONE) {
                return 0;
            }
            int remainder = remainderOf(fingerprint);
            int length = lengthOfRun(first);
            for (int i = 0; i < length; i++) {
                if (remainders[wrap(first + i)] >= remainder) {
                    return i + 1;
                }
            }
            return length;
        }

        int lengthOfLongestCluster() {
            int start = someEmptySlot();
            int longest = 0;
            int length = 0;
            for (int step = 0; step < allSlots(); step++) {
                int slot = wrap(start + step);
                if (!isEmpty(slot)) {
                    length = shifted[slot] ? length + 1 : 1;
                    longest = Math.max(longest, length);
                }
            }
            return longest;
        }

        // Once round from the run of the least quotient, the fingerprints come in order.
        void readInto(Bag bag) {
            bag.drop();
            int quotient = allSlots() - 1;
            int start = firstOfRun(occupiedAfter(quotient));
            if (start == NONE) {
                return;
            }
            for (int step = 0; step < allSlots(); step++) {
                int slot = wrap(start + step);
                if (!isEmpty(slot)) {
                    quotient = continuation[slot] ? quotient : occupiedAfter(quotient);
                    bag.append(fingerprintOf(quotient, remainders[slot]), counters[slot]);
                }
            }
        }

        void wipe() {
            for (int slot = 0; slot < MOST_SLOTS; slot++) {
                remainders[slot] = 0;
                counters[slot] = 0;
                occupied[slot] = false;
                continuation[slot] = false;
                shifted[slot] = false;
            }
        }

        // Runs that go over the last slot take the first ones, so what is placed first begins
        // after them; since some slot stays empty, no more goes over the last slot for that.
        void fill(int newBits, Bag bag) {
            wipe();
            bits = newBits;
            int place = Math.max(0, endInLine(bag) - allSlots());
            for (int i = 0; i < bag.size; i++) {
                place = Math.max(place, quotientOf(bag.fingerprints[i]));
                writeEntries(place, bag.fingerprints[i], bag.counts[i]);
                place += entriesFor(bag.counts[i]);
            }
        }

        // Where the last entry would end if the slots went on in a line after the last one.
        int endInLine(Bag bag) {
            int end = 0;
            for (int i = 0; i < bag.size; i++) {
                end = Math.max(end, quotientOf(bag.fingerprints[i])) + entriesFor(bag.counts[i]);
            }
            return end;
        }

        void writeEntries(int place, int fingerprint, int count) {
            int quotient = quotientOf(fingerprint);
            int at = place;
            for (int left = count; left > 0; left -= FULL_COUNTER) {
                int slot = wrap(at);
                remainders[slot] = remainderOf(fingerprint);
                counters[slot] = Math.min(left, FULL_COUNTER);
                continuation[slot] = occupied[quotient];
                shifted[slot] = slot != quotient;
                occupied[quotient] = true;
                at++;
            }
        }
    }

    /** The entries of a table in one list per quotient: links from slot to slot. */
    private static final class Lists {
        final int[] firsts;
        final int[] nexts;

        Lists() {
            firsts = new int[MOST_SLOTS];
            nexts = new int[MOST_SLOTS];
        }

        // From an empty slot on, since only after one is the quotient of an entry sure.
        void makeFrom(Table table) {
            for (int i = 0; i < MOST_SLOTS; i++) {
                firsts[i] = NONE;
            }
            int start = table.someEmptySlot();
            int quotient = start;
            for (int step = 1; step < table.allSlots(); step++) {
                int slot = table.wrap(start + step);
                if (!table.isEmpty(slot)) {
                    quotient = quotientHere(table, slot, quotient);
                    nexts[slot] = firsts[quotient];
                    firsts[quotient] = slot;
                }
            }
        }

        private static int quotientHere(Table table, int slot, int quotientBefore) {
            if (!table.shifted[slot]) {
                return slot;
            }
            return table.continuation[slot] ? quotientBefore : table.occupiedAfter(quotientBefore);
        }

        int sumFor(Table table, int fingerprint) {
            int remainder = table.remainderOf(fingerprint);
            int slot = firsts[table.quotientOf(fingerprint)];
            int sum = 0;
            for (int step = 0; step < MOST_SLOTS && slot != NONE; step++) {
                sum += table.remainders[slot] == remainder ? table.counters[slot] : 0;
                slot = nexts[slot];
            }
            return sum;
        }
    }
}
