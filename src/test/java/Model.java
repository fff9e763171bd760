import java.util.ArrayList;
import java.util.List;

/**
 * The document in its plainest form, to compare QuotientQuoin with: a count for every
 * fingerprint, and a table that is made anew by trying every slot as the empty one.
 */
public final class Model {
    private record Entry(int fingerprint, int counter, boolean first) { }

    private final int[][] counts = new int[4][4096];
    private final int[] bits = {3, 3, 3, 3};
    private final Entry[][] tables = new Entry[4][];

    // ---- keys

    public int fingerprint(int key) {
        long product = (key & 0xFFFFFFFFL) * 2654435769L;
        return (int) ((product & 0xFFFFFFFFL) / (1L << 20));
    }

    public int insert(int filter, int key) {
        needFilter(filter);
        return change(filter, fingerprint(key), 1);
    }

    public boolean remove(int filter, int key) {
        needFilter(filter);
        boolean there = counts[filter][fingerprint(key)] > 0;
        if (there) {
            change(filter, fingerprint(key), -1);
        }
        return there;
    }

    public int count(int filter, int key) {
        needFilter(filter);
        return counts[filter][fingerprint(key)];
    }

    // ---- fingerprints

    public int add(int filter, int fingerprint, int times) {
        needFilter(filter);
        needFingerprint(fingerprint);
        needTimes(times);
        return change(filter, fingerprint, times);
    }

    public int take(int filter, int fingerprint, int times) {
        needFilter(filter);
        needFingerprint(fingerprint);
        needTimes(times);
        int before = counts[filter][fingerprint];
        int taken = times < before ? times : before;
        change(filter, fingerprint, -taken);
        return taken;
    }

    public int countOf(int filter, int fingerprint) {
        needFilter(filter);
        needFingerprint(fingerprint);
        return counts[filter][fingerprint];
    }

    public int countInLists(int filter, int fingerprint) {
        return countOf(filter, fingerprint);
    }

    public int lookedAt(int filter, int fingerprint) {
        needFilter(filter);
        needFingerprint(fingerprint);
        int remainders = 4096 / slots(filter);
        int looks = 0;
        for (Entry entry : entriesOfRun(filter, fingerprint / remainders)) {
            looks++;
            if (entry.fingerprint() >= fingerprint) {
                break;
            }
        }
        return looks;
    }

    // ---- whole filters

    public void clear(int filter) {
        needFilter(filter);
        become(filter, new int[4096], bits[filter]);
    }

    public int grow(int filter) {
        needFilter(filter);
        if (bits[filter] == 8) {
            throw new IllegalStateException();
        }
        become(filter, counts[filter], bits[filter] + 1);
        return slots(filter);
    }

    public int shrink(int filter) {
        needFilter(filter);
        if (bits[filter] == 3) {
            throw new IllegalStateException();
        }
        become(filter, counts[filter], bits[filter] - 1);
        return slots(filter);
    }

    public int merge(int filter, int other) {
        needFilter(filter);
        needFilter(other);
        int[] sums = new int[4096];
        for (int f = 0; f < 4096; f++) {
            sums[f] = counts[filter][f] + counts[other][f];
        }
        become(filter, sums, bits[filter]);
        return entries(filter);
    }

    public int intersect(int filter, int other) {
        needFilter(filter);
        needFilter(other);
        int[] lesser = new int[4096];
        for (int f = 0; f < 4096; f++) {
            lesser[f] = counts[filter][f] < counts[other][f] ? counts[filter][f] : counts[other][f];
        }
        become(filter, lesser, bits[filter]);
        return entries(filter);
    }

    public boolean isSame(int filter, int other) {
        needFilter(filter);
        needFilter(other);
        boolean same = true;
        for (int f = 0; f < 4096; f++) {
            same &= counts[filter][f] == counts[other][f];
        }
        return same;
    }

    // ---- what a filter has

    public int slots(int filter) {
        needFilter(filter);
        return 1 << bits[filter];
    }

    public int entries(int filter) {
        needFilter(filter);
        return entriesFor(counts[filter]);
    }

    public int distinct(int filter) {
        needFilter(filter);
        return fingerprintsOf(filter).size();
    }

    public int total(int filter) {
        needFilter(filter);
        int sum = 0;
        for (int f = 0; f < 4096; f++) {
            sum += counts[filter][f];
        }
        return sum;
    }

    public int fingerprintAt(int filter, int place) {
        needFilter(filter);
        List<Integer> all = fingerprintsOf(filter);
        need(place >= 0 && place < all.size());
        return all.get(place);
    }

    // ---- slots

    public int remainderAt(int filter, int slot) {
        needSlot(filter, slot);
        Entry entry = table(filter)[slot];
        return entry == null ? -1 : entry.fingerprint() % (4096 / slots(filter));
    }

    public int counterAt(int filter, int slot) {
        needSlot(filter, slot);
        Entry entry = table(filter)[slot];
        return entry == null ? 0 : entry.counter();
    }

    public int quotientAt(int filter, int slot) {
        needSlot(filter, slot);
        Entry entry = table(filter)[slot];
        return entry == null ? -1 : quotient(filter, entry);
    }

    public boolean isOccupied(int filter, int slot) {
        needSlot(filter, slot);
        return !entriesOfRun(filter, slot).isEmpty();
    }

    public boolean isContinuation(int filter, int slot) {
        needSlot(filter, slot);
        Entry entry = table(filter)[slot];
        return entry != null && !entry.first();
    }

    public boolean isShifted(int filter, int slot) {
        needSlot(filter, slot);
        Entry entry = table(filter)[slot];
        return entry != null && quotient(filter, entry) != slot;
    }

    public int runStart(int filter, int quotient) {
        needSlot(filter, quotient);
        Entry[] table = table(filter);
        for (int slot = 0; slot < table.length; slot++) {
            if (table[slot] != null && table[slot].first() && quotient(filter, table[slot]) == quotient) {
                return slot;
            }
        }
        return -1;
    }

    public int runLength(int filter, int quotient) {
        needSlot(filter, quotient);
        return entriesOfRun(filter, quotient).size();
    }

    public int clusterStart(int filter, int slot) {
        needSlot(filter, slot);
        if (table(filter)[slot] == null) {
            return -1;
        }
        int start = slot;
        while (isShifted(filter, start)) {
            start = (start + slots(filter) - 1) % slots(filter);
        }
        return start;
    }

    public int longestCluster(int filter) {
        needFilter(filter);
        int[] sizes = new int[slots(filter)];
        int longest = 0;
        for (int slot = 0; slot < slots(filter); slot++) {
            if (table(filter)[slot] != null) {
                int start = clusterStart(filter, slot);
                sizes[start]++;
                longest = sizes[start] > longest ? sizes[start] : longest;
            }
        }
        return longest;
    }

    // ---- how it is done

    private static void need(boolean there) {
        if (!there) {
            throw new IndexOutOfBoundsException();
        }
    }

    private static void needFilter(int filter) {
        need(filter >= 0 && filter < 4);
    }

    private void needSlot(int filter, int slot) {
        needFilter(filter);
        need(slot >= 0 && slot < slots(filter));
    }

    private static void needFingerprint(int fingerprint) {
        if (fingerprint < 0 || fingerprint > 4095) {
            throw new IllegalArgumentException();
        }
    }

    private static void needTimes(int times) {
        if (times < 1 || times > 100) {
            throw new IllegalArgumentException();
        }
    }

    private static int entriesFor(int[] numbers) {
        int entries = 0;
        for (int number : numbers) {
            entries += number / 7 + (number % 7 == 0 ? 0 : 1);
        }
        return entries;
    }

    private int change(int filter, int fingerprint, int by) {
        int[] changed = counts[filter].clone();
        changed[fingerprint] += by;
        become(filter, changed, bits[filter]);
        return changed[fingerprint];
    }

    private void become(int filter, int[] newCounts, int newBits) {
        if (entriesFor(newCounts) * 8 > (1 << newBits) * 7) {
            throw new IllegalStateException();
        }
        counts[filter] = newCounts;
        bits[filter] = newBits;
        tables[filter] = null;
    }

    private List<Integer> fingerprintsOf(int filter) {
        List<Integer> all = new ArrayList<>();
        for (int f = 0; f < 4096; f++) {
            if (counts[filter][f] > 0) {
                all.add(f);
            }
        }
        return all;
    }

    private int quotient(int filter, Entry entry) {
        return entry.fingerprint() / (4096 / slots(filter));
    }

    // In the order of the run: full counters come before the one that holds the rest.
    private List<Entry> entriesOfRun(int filter, int quotient) {
        List<Entry> run = new ArrayList<>();
        int remainders = 4096 / slots(filter);
        for (int f = quotient * remainders; f < (quotient + 1) * remainders; f++) {
            for (int left = counts[filter][f]; left > 0; left -= 7) {
                run.add(new Entry(f, left < 7 ? left : 7, run.isEmpty()));
            }
        }
        return run;
    }

    private Entry[] table(int filter) {
        for (int empty = 0; tables[filter] == null && empty < slots(filter); empty++) {
            tables[filter] = tableWithEmpty(filter, empty);
        }
        return tables[filter];
    }

    // Null where that slot can't be empty; by the document it is free which empty slot is taken.
    private Entry[] tableWithEmpty(int filter, int empty) {
        int slots = slots(filter);
        Entry[] table = new Entry[slots];
        if (!entriesOfRun(filter, empty).isEmpty()) {
            return null;
        }
        int free = empty + 1;
        for (int line = empty + 1; line < empty + slots; line++) {
            free = free < line ? line : free;
            for (Entry entry : entriesOfRun(filter, line % slots)) {
                if (free >= empty + slots) {
                    return null;
                }
                table[free % slots] = entry;
                free++;
            }
        }
        return table;
    }
}
