import java.nio.file.Path;

/** Each sentence of the document's terms has a test of its own here, at the edges that it names. */
public final class TermsTest {
    private static final Checks CHECKS = new Checks("TermsTest");
    private static final String INDEX = Run.INDEX;
    private static final String ARGUMENT = Run.ARGUMENT;
    private static final String STATE = Run.STATE;
    private static final int LEAST = Integer.MIN_VALUE;
    private static final int GREATEST = Integer.MAX_VALUE;
    private static final int[] NO_FILTERS = {-1, 4, -4, 8, 256, LEAST, GREATEST};
    private static Sentences sentences;

    public static void main(String[] args) throws Exception {
        sentences = new Sentences(Path.of(args[0], "DOC.md"));
        callsOfOneObject();
        withoutTheKeys();
        fourFilters();
        refusedChangesNothing();
        refusedInTheOrderOfTheClause();
        fingerprints();
        multisets();
        slots();
        afterTheLastSlot();
        quotientsAndRemainders();
        entriesOfACount();
        countersOfACount();
        emptySlots();
        sevenEighths();
        orderInARun();
        placesOfRuns();
        orderOfRuns();
        justOneWay();
        occupied();
        continuation();
        shifted();
        clusters();
        constants();
        CHECKS.due("sentences without a test", "[]", (Object) sentences.withoutTest("Terms").toString());
        CHECKS.due("sentences of the terms", 21, (Object) sentences.size("Terms"));
        CHECKS.end();
    }

    private static Run sentence(String beginning) {
        return new Run(CHECKS, sentences.withTest("Terms", beginning));
    }

    private static int of(int bits, int quotient, int remainder) {
        return (quotient << (12 - bits)) + remainder;
    }

    /** Adds fingerprints of a quotient in eight slots with one entry each. */
    private static Run entries(Run x, int filter, int quotient, int number) {
        for (int i = 0; i < number; i++) {
            x.does("add", filter, of(3, quotient & 7, 10 * i), 1);
        }
        return x;
    }

    /** A row of eight answers that begins in the given slot and goes round the end. */
    private static String from(int first, Object... answers) {
        String[] row = new String[8];
        for (int i = 0; i < 8; i++) {
            row[(first + i) & 7] = answers[i].toString();
        }
        return String.join(" ", row);
    }

    private static void callsOfOneObject() {
        Run x = new Run(CHECKS, sentences.withTest("What it is", "An object is used for at most 512 calls"));
        x.grown(0, 8);
        for (int i = 0; i < 224; i++) {
            x.does("add", 0, 18 * i, 1);
        }
        for (int i = 0; i < 224; i++) {
            x.does("add", 0, 18 * i, 6);
        }
        for (int i = 0; i < 58; i++) {
            x.due(STATE, "add", 0, 18 * i, 1);
        }
        x.due(1568, "total", 0);
        Run y = new Run(CHECKS, "512 calls, nearly all of which change");
        for (int i = 0; i < 255; i++) {
            y.due(1, "insert", 3, 1).due(true, "remove", 3, 1);
        }
        y.due(1, "insert", 3, 1).due(1, "total", 3);
    }

    private static void withoutTheKeys() {
        Run x = sentence("Filters can be doubled, halved, merged");
        // The same two filters by keys and by the fingerprints of these keys: 2531, 966 and 3498.
        x.does("insert", 0, 1).does("insert", 0, 2).does("insert", 1, 2).does("insert", 1, 3);
        x.does("add", 2, 2531, 1).does("add", 2, 966, 1).does("add", 3, 966, 1).does("add", 3, 3498, 1);
        x.due(16, "grow", 0).due(16, "grow", 2).due(true, "isSame", 0, 2);
        x.due(8, "shrink", 0).due(8, "shrink", 2).due(true, "isSame", 0, 2);
        x.due(3, "merge", 0, 1).due(3, "merge", 2, 3).due(true, "isSame", 0, 2);
        x.due(2, "count", 2, 2).due(1, "count", 2, 1).due(1, "count", 2, 3);
        x.due(2, "intersect", 0, 1).due(2, "intersect", 2, 3).due(true, "isSame", 0, 2);
        x.due(1, "count", 2, 2).due(0, "count", 2, 1).due(1, "count", 2, 3);
    }

    private static void fourFilters() {
        Run x = sentence("There are four filters");
        for (int filter = 0; filter < 4; filter++) {
            x.due(filter + 1, "add", filter, 100, filter + 1);
        }
        for (int filter = 0; filter < 4; filter++) {
            x.due(filter + 1, "total", filter);
        }
        x.refusedFor(NO_FILTERS, 0, INDEX, "slots", 0);
        x.refusedFor(NO_FILTERS, 0, INDEX, "add", 0, 100, 1);
        x.refusedFor(NO_FILTERS, 0, INDEX, "merge", 0, 0);
        x.refusedFor(NO_FILTERS, 1, INDEX, "merge", 3, 0);
    }

    // ---- calls that throw

    /** Filters 0 to 3: full in 8 slots, empty in 8, full in 16 slots, and round the end of 256. */
    private static Run fullOnes(Run x) {
        x.grown(2, 4).grown(3, 8).filled(0).filled(2);
        return x.does("add", 3, 4095, 100).does("add", 3, 0, 8);
    }

    private static void refusedChangesNothing() {
        Run x = fullOnes(sentence("A call that throws an exception changes nothing"));
        x.refused(INDEX, "insert", 4, 1).refused(STATE, "insert", 0, 1).refused(STATE, "insert", 2, -1);
        x.refused(INDEX, "remove", -1, 1).refused(INDEX, "count", 4, 1);
        x.refused(INDEX, "add", 4, 1, 1).refused(ARGUMENT, "add", 3, 4096, 1);
        x.refused(ARGUMENT, "add", 3, 0, 101);
        x.refused(STATE, "add", 0, 4090, 1).refused(STATE, "add", 1, 5, 50).refused(STATE, "add", 1, 5, 100);
        x.refused(INDEX, "take", 4, 4090, 1).refused(ARGUMENT, "take", 0, -1, 1);
        x.refused(ARGUMENT, "take", 0, 4090, 0).refused(ARGUMENT, "take", 0, 4090, 101);
        x.refused(INDEX, "countOf", 4, 1).refused(ARGUMENT, "countOf", 3, 4096);
        x.refused(INDEX, "countInLists", 4, 1).refused(ARGUMENT, "countInLists", 3, -1);
        x.refused(INDEX, "lookedAt", 4, 1).refused(ARGUMENT, "lookedAt", 3, 4096);
        x.refused(INDEX, "clear", 4).refused(INDEX, "grow", 4).refused(STATE, "grow", 3);
        x.refused(INDEX, "shrink", 4).refused(STATE, "shrink", 0).refused(STATE, "shrink", 1);
        x.refused(STATE, "shrink", 2);
        x.refused(INDEX, "merge", 4, 0).refused(INDEX, "merge", 0, 4).refused(STATE, "merge", 0, 0);
        x.refused(STATE, "merge", 0, 2).refused(STATE, "merge", 1, 2).refused(STATE, "merge", 0, 3);
        x.refused(INDEX, "intersect", 4, 0).refused(INDEX, "intersect", 0, 4);
        x.refused(INDEX, "isSame", 4, 0).refused(INDEX, "isSame", 0, 4);
        for (String name : new String[] {"slots", "entries", "distinct", "total", "longestCluster"}) {
            x.refused(INDEX, name, 4);
        }
        for (String name : new String[] {"fingerprintAt", "remainderAt", "counterAt", "quotientAt", "isOccupied",
            "isContinuation", "isShifted", "runStart", "runLength", "clusterStart"}) {
            x.refused(INDEX, name, 4, 0).refused(INDEX, name, 0, 8).refused(INDEX, name, 3, -1);
        }
    }

    private static void refusedInTheOrderOfTheClause() {
        Run x = fullOnes(sentence("A call that throws an exception changes nothing"));
        // A filter that isn't there before a fingerprint, a number of times or a full filter.
        for (int no : NO_FILTERS) {
            x.refused(INDEX, "add", no, 4096, 0).refused(INDEX, "add", no, -1, 1);
            x.refused(INDEX, "add", no, 0, 101);
            x.refused(INDEX, "take", no, 4096, 0).refused(INDEX, "take", no, -1, 1);
            x.refused(INDEX, "take", no, 0, 101);
            x.refused(INDEX, "countOf", no, 4096).refused(INDEX, "countInLists", no, -1);
            x.refused(INDEX, "lookedAt", no, 4096);
            x.refused(INDEX, "merge", 0, no).refused(INDEX, "merge", no, 0).refused(INDEX, "merge", no, no);
        }
        x = x.renewed();
        // An argument out of range before a full filter.
        x.refused(ARGUMENT, "add", 0, 4096, 1).refused(ARGUMENT, "add", 0, -1, 100);
        x.refused(ARGUMENT, "add", 0, 4090, 0).refused(ARGUMENT, "add", 0, 4090, 101);
        x.refused(ARGUMENT, "add", 0, 4096, 101).refused(ARGUMENT, "add", 2, LEAST, GREATEST);
    }

    // ---- fingerprints

    private static void fingerprints() {
        Run x = sentence("The fingerprint of a key, an int");
        // By hand: the products of 1 and 2 wrap to 9E3779B9 and 3C6EF372, of -1 to 61C88647.
        x.due(0x9E3, "fingerprint", 1).due(0x3C6, "fingerprint", 2).due(0x61C, "fingerprint", -1);
        x.due(0, "fingerprint", 0).due(0x800, "fingerprint", LEAST).due(0xE1C, "fingerprint", GREATEST);
        // The least and the greatest one, and the products next to a border of 2^20.
        x.due(4095, "fingerprint", -193834).due(0, "fingerprint", 4181);
        for (int i = 0; i < 250; i++) {
            x.due(fingerprintByLong(i), "fingerprint", i);
            int far = GREATEST - 17_000_001 * i;
            x.due(fingerprintByLong(far), "fingerprint", far);
        }
    }

    private static int fingerprintByLong(int key) {
        long product = key * 2654435769L & 0xFFFFFFFFL;
        return (int) (product >> 20);
    }

    private static void multisets() {
        Run x = sentence("A filter is a multiset of fingerprints");
        for (int fingerprint = 0; fingerprint < 4096; fingerprint++) {
            if (fingerprint % 64 == 0) {
                x = sentence("A filter is a multiset of fingerprints");
            }
            int filter = fingerprint % 4;
            x.due(0, "countOf", filter, fingerprint);
            x.due(1, "add", filter, fingerprint, 1).due(2, "add", filter, fingerprint, 1);
            x.due(2, "countOf", filter, fingerprint).due(2, "total", filter);
            x.due(0, "countOf", filter, fingerprint == 0 ? 4095 : fingerprint - 1);
            x.due(2, "take", filter, fingerprint, 100);
        }
    }

    // ---- the table

    private static void slots() {
        Run x = sentence("A filter has 2^q slots");
        x.due(8, "slots", 0).refused(STATE, "shrink", 0);
        for (int bits = 3; bits <= 8; bits++) {
            int slots = 1 << bits;
            x.due(slots, "slots", 0).due(0, "counterAt", 0, 0).due(0, "counterAt", 0, slots - 1);
            x.refused(INDEX, "counterAt", 0, slots).refused(INDEX, "counterAt", 0, -1);
            if (bits < 8) {
                x.due(2 * slots, "grow", 0);
            }
        }
        x.refused(STATE, "grow", 0).due(8, "slots", 1).due(8, "slots", 2).due(8, "slots", 3);
    }

    private static void afterTheLastSlot() {
        for (int bits = 3; bits <= 8; bits++) {
            Run x = sentence("The slot after the last one is slot 0").grown(0, bits);
            int last = (1 << bits) - 1;
            x.does("add", 0, 4095, 15).does("add", 0, 0, 1);
            x.due(7, "counterAt", 0, last).due(7, "counterAt", 0, 0).due(1, "counterAt", 0, 1);
            x.due(last, "quotientAt", 0, 0).due(last, "quotientAt", 0, 1).due(0, "quotientAt", 0, 2);
            x.due(last, "runStart", 0, last).due(2, "runStart", 0, 0).due(3, "runLength", 0, last);
            x.due(last, "clusterStart", 0, 2).due(-1, "clusterStart", 0, 3).due(4, "longestCluster", 0);
            x.due(15, "countOf", 0, 4095).due(15, "countInLists", 0, 4095).due(1, "countOf", 0, 0);
        }
    }

    private static void quotientsAndRemainders() {
        for (int bits = 3; bits <= 8; bits++) {
            Run x = sentence("The quotient of a fingerprint is its highest q bits").grown(0, bits);
            int last = (1 << bits) - 1;
            int most = (1 << (12 - bits)) - 1;
            // The least and the greatest of a quotient, each alone in the table.
            for (int quotient : new int[] {0, 1, last / 2, last - 1, last}) {
                for (int remainder : new int[] {0, 1, most - 1, most}) {
                    int fingerprint = of(bits, quotient, remainder);
                    x.does("add", 0, fingerprint, 1);
                    x.due(quotient, "quotientAt", 0, quotient).due(remainder, "remainderAt", 0, quotient);
                    x.due(fingerprint, "fingerprintAt", 0, 0).does("clear", 0);
                }
            }
            x.does("add", 0, most, 1).does("add", 0, most + 1, 1);
            x.due(0, "quotientAt", 0, 0).due(1, "quotientAt", 0, 1);
            x.due(most, "remainderAt", 0, 0).due(0, "remainderAt", 0, 1);
        }
    }

    private static void entriesOfACount() {
        Run x = sentence("A fingerprint with a count n of 1 or more has entries");
        x.due(0, "entries", 0);
        for (int count = 1; count <= 49; count++) {
            x.does("add", 0, 3000, 1).due((int) Math.ceil(count / 7.0), "entries", 0);
        }
        for (int count = 48; count >= 0; count--) {
            x.does("take", 0, 3000, 1).due((int) Math.ceil(count / 7.0), "entries", 0);
        }
        x.due(0, "runLength", 0, 5).due(false, "isOccupied", 0, 5);
    }

    private static void countersOfACount() {
        Run x = sentence("Each entry has the remainder of the fingerprint and a counter");
        int[] counts = {1, 6, 7, 8, 13, 14, 15, 42, 43, 48, 49};
        String[] counters = {"1 0 0 0 0 0 0 0", "6 0 0 0 0 0 0 0", "7 0 0 0 0 0 0 0", "7 1 0 0 0 0 0 0",
            "7 6 0 0 0 0 0 0", "7 7 0 0 0 0 0 0", "7 7 1 0 0 0 0 0", "7 7 7 7 7 7 0 0", "7 7 7 7 7 7 1 0",
            "7 7 7 7 7 7 6 0", "7 7 7 7 7 7 7 0"};
        for (int i = 0; i < counts.length; i++) {
            x.does("add", 0, 30, counts[i]).row(counters[i], "counterAt", 0).due(counts[i], "total", 0);
            x.row(counters[i].replaceAll("[1-7]", "30").replaceAll("\\b0", "-1"), "remainderAt", 0);
            x.does("clear", 0);
        }
        // The same on the way down: the last one is always the one that is not full.
        x = sentence("Each entry has the remainder of the fingerprint and a counter");
        x.does("add", 0, 30, 15).does("take", 0, 30, 1).row("7 7 0 0 0 0 0 0", "counterAt", 0);
        x.does("take", 0, 30, 1).row("7 6 0 0 0 0 0 0", "counterAt", 0);
        x.does("take", 0, 30, 6).row("7 0 0 0 0 0 0 0", "counterAt", 0);
    }

    private static void emptySlots() {
        for (int quotient = 0; quotient < 8; quotient++) {
            Run x = sentence("A slot holds at most one entry");
            String none = from(quotient, -1, -1, -1, -1, -1, -1, -1, -1);
            x.row(none, "remainderAt", 0).row(none, "quotientAt", 0).row(none, "clusterStart", 0);
            x.row("0 0 0 0 0 0 0 0", "counterAt", 0);
            // Seven fingerprints of one quotient take seven slots, one each; one slot is empty.
            entries(x, 0, quotient, 7).due(7, "entries", 0);
            x.row(from(quotient, 0, 10, 20, 30, 40, 50, 60, -1), "remainderAt", 0);
            x.row(from(quotient, 1, 1, 1, 1, 1, 1, 1, 0), "counterAt", 0);
            int q = quotient;
            x.row(from(quotient, q, q, q, q, q, q, q, -1), "quotientAt", 0);
            x.row(from(quotient, q, q, q, q, q, q, q, -1), "clusterStart", 0);
        }
    }

    private static void sevenEighths() {
        for (int bits = 3; bits <= 8; bits++) {
            Run x = sentence("At most seven eighths of the slots hold entries").grown(0, bits);
            int most = 7 << (bits - 3);
            x.filled(0).due(most, "entries", 0).due(7 * most, "total", 0);
            x.refused(STATE, "add", 0, 4090, 1).refused(STATE, "add", 0, 7, 1).refused(STATE, "insert", 0, 0);
            x.refused(STATE, "add", 0, 4090, 100);
            x.does("take", 0, 4090, 8).due(most - 1, "entries", 0).does("add", 0, 4090, 1);
            x.due(most - 1, "entries", 0).refused(STATE, "add", 0, 7, 8).due(7, "add", 0, 7, 7);
            x.due(most, "entries", 0).refused(STATE, "add", 0, 4090, 1);
        }
        Run y = sentence("At most seven eighths of the slots hold entries").grown(0, 8);
        for (int i = 0; i < 224; i++) {
            y.does("add", 0, 4095 - i, 1);
        }
        y.due(224, "entries", 0).due(224, "longestCluster", 0).refused(STATE, "add", 0, 0, 1);
        y.due(7, "add", 0, 4095, 6).refused(STATE, "add", 0, 4095, 1);
    }

    // ---- runs

    private static void orderInARun() {
        int[][] orders = {{0, 1, 2}, {0, 2, 1}, {1, 0, 2}, {1, 2, 0}, {2, 0, 1}, {2, 1, 0}};
        int[] remainders = {0, 9, 511};
        int[] counts = {8, 9, 14};
        for (int quotient = 0; quotient < 8; quotient++) {
            for (int[] order : orders) {
                Run x = sentence("The run of a quotient is all entries");
                for (int which : order) {
                    x.does("add", 0, of(3, quotient, remainders[which]), counts[which]);
                }
                x.row(from(quotient, 0, 0, 9, 9, 511, 511, -1, -1), "remainderAt", 0);
                x.row(from(quotient, 7, 1, 7, 2, 7, 7, 0, 0), "counterAt", 0);
                x.due(6, "runLength", 0, quotient).due(quotient, "runStart", 0, quotient);
                // One by one gives the same as several at once.
                x.does("add", 0, of(3, quotient, 0), 6);
                x.row(from(quotient, 7, 7, 7, 2, 7, 7, 0, 0), "counterAt", 0);
                x.does("add", 0, of(3, quotient, 0), 1);
                x.row(from(quotient, 7, 7, 1, 7, 2, 7, 7, 0), "counterAt", 0);
            }
        }
    }

    private static void placesOfRuns() {
        for (int first = 0; first < 8; first++) {
            Run x = sentence("Runs stand in consecutive slots");
            int second = (first + 1) & 7;
            int third = (first + 2) & 7;
            // Its own slot is free: the run before it ends in the slot before.
            entries(entries(x, 0, first, 1), 0, second, 1);
            x.due(first, "runStart", 0, first).due(second, "runStart", 0, second);
            // An earlier run takes its slot: right after the end of that run.
            x.does("add", 0, of(3, first, 5), 1).due(third, "runStart", 0, second);
            x.row(from(first, first, first, second, -1, -1, -1, -1, -1), "quotientAt", 0);
            // The run before it has been shifted itself and takes its slot.
            entries(x, 0, third, 2).due((first + 3) & 7, "runStart", 0, third);
            x.row(from(first, first, first, second, third, third, -1, -1, -1), "quotientAt", 0);
            // A run farther on begins in its own slot again, even right after the end of them.
            entries(x, 0, first + 5, 1).due((first + 5) & 7, "runStart", 0, (first + 5) & 7);
            x.due(false, "isShifted", 0, (first + 5) & 7);
            // With the first entry away they all go back to their own slots as far as they can.
            x.does("take", 0, of(3, first, 5), 1).due(second, "runStart", 0, second);
            x.due(third, "runStart", 0, third);
            x.row(from(first, first, second, third, third, -1, (first + 5) & 7, -1, -1), "quotientAt", 0);
        }
    }

    private static void orderOfRuns() {
        for (int first = 0; first < 8; first++) {
            Run x = sentence("Going forward from an empty slot");
            int a = first;
            int b = (first + 1) & 7;
            int c = (first + 2) & 7;
            int d = (first + 6) & 7;
            entries(entries(entries(entries(x, 0, c, 2), 0, a, 2), 0, d, 1), 0, b, 2);
            x.row(from(first, a, a, b, b, c, c, d, -1), "quotientAt", 0);
            x.row(from(first, a, (a + 2) & 7, (a + 4) & 7, -1, -1, -1, d, -1), "runStart", 0);
            x.row(from(first, 2, 2, 2, 0, 0, 0, 1, 0), "runLength", 0);
            x.row(from(first, a, a, a, a, a, a, d, -1), "clusterStart", 0);
        }
        for (int bits = 4; bits <= 8; bits++) {
            Run x = sentence("Going forward from an empty slot").grown(0, bits);
            int last = (1 << bits) - 1;
            x.does("add", 0, of(bits, 1, 0), 1).does("add", 0, 0, 8).does("add", 0, 4095, 8);
            x.does("add", 0, of(bits, last - 1, 0), 15);
            x.due(last - 1, "quotientAt", 0, last - 1).due(last - 1, "quotientAt", 0, last);
            x.due(last - 1, "quotientAt", 0, 0).due(last, "quotientAt", 0, 1).due(last, "quotientAt", 0, 2);
            x.due(0, "quotientAt", 0, 3).due(0, "quotientAt", 0, 4).due(1, "quotientAt", 0, 5);
            x.due(-1, "quotientAt", 0, 6).due(-1, "quotientAt", 0, last - 2).due(8, "longestCluster", 0);
        }
    }

    private static void justOneWay() {
        Run x = sentence("(There is just one way to place all runs so");
        // The same multiset in four ways, full in eight slots and round the end of them.
        x.does("add", 0, of(3, 6, 4), 20).does("add", 0, of(3, 7, 1), 8);
        x.does("add", 0, 0, 3).does("add", 0, 600, 1);
        x.does("add", 1, 600, 1).does("add", 1, 0, 3);
        x.does("add", 1, of(3, 7, 1), 8).does("add", 1, of(3, 6, 4), 20);
        x.grown(2, 5).does("add", 2, 0, 3).does("add", 2, of(3, 6, 4), 20).does("add", 2, 77, 9);
        x.does("add", 2, of(3, 7, 1), 8).does("add", 2, 600, 1).does("take", 2, 77, 9);
        x.does("shrink", 2).does("shrink", 2);
        x.does("add", 3, of(3, 6, 4), 1).does("merge", 3, 0).does("intersect", 3, 1);
        for (int filter = 0; filter < 4; filter++) {
            x.row("4 1 1 0 88 -1 4 4", "remainderAt", filter).row("6 7 1 3 1 0 7 7", "counterAt", filter);
            x.row("6 7 7 0 1 -1 6 6", "quotientAt", filter);
        }
    }

    // ---- flags

    /** Runs of the quotients 6, 7 and 1 in the slots 6 to 0, 1 to 2 and 3; one of 4 in slot 4. */
    private static Run flagged(Run x) {
        return entries(entries(entries(entries(x, 0, 1, 1), 0, 4, 1), 0, 7, 2), 0, 6, 3);
    }

    private static void occupied() {
        Run x = flagged(sentence("A slot is occupied if there is a run"));
        x.row("6 7 7 1 4 -1 6 6", "quotientAt", 0);
        // Slots 7 and 1 are occupied, though their runs begin elsewhere; slot 0 is only taken.
        x.row("0 1 0 0 1 0 1 1", "isOccupied", 0);
        x.does("take", 0, of(3, 7, 0), 1).row("0 1 0 0 1 0 1 1", "isOccupied", 0);
        x.does("take", 0, of(3, 7, 10), 1).row("0 1 0 0 1 0 1 0", "isOccupied", 0);
        x.does("take", 0, of(3, 7, 10), 1).does("clear", 0).row("0 0 0 0 0 0 0 0", "isOccupied", 0);
    }

    private static void continuation() {
        Run x = flagged(sentence("A slot is a continuation if it holds an entry"));
        x.row("1 0 1 0 0 0 0 1", "isContinuation", 0);
        x.does("take", 0, of(3, 6, 0), 1).row("0 1 0 0 0 0 0 1", "isContinuation", 0);
        x.does("clear", 0).row("0 0 0 0 0 0 0 0", "isContinuation", 0);
        // More entries of one fingerprint are as much continuations as other fingerprints are.
        x.does("add", 0, 4095, 49).row("1 1 1 1 1 1 0 0", "isContinuation", 0);
    }

    private static void shifted() {
        Run x = flagged(sentence("A slot is shifted if it holds an entry"));
        x.row("1 1 1 1 0 0 0 1", "isShifted", 0);
        x.does("take", 0, of(3, 6, 0), 1).row("1 1 1 0 0 0 0 1", "isShifted", 0);
        x.does("clear", 0).row("0 0 0 0 0 0 0 0", "isShifted", 0);
        x.does("add", 0, 4095, 49).row("1 1 1 1 1 1 0 0", "isShifted", 0);
    }

    private static void clusters() {
        Run x = flagged(sentence("A cluster is an entry in a slot that is not shifted"));
        // Slot 4 is not shifted, so a cluster ends before it; the next ends before an empty slot.
        x.row("6 6 6 6 4 -1 6 6", "clusterStart", 0).due(6, "longestCluster", 0);
        x.does("take", 0, of(3, 4, 0), 1).row("6 6 6 6 -1 -1 6 6", "clusterStart", 0);
        x.does("clear", 0).does("add", 0, of(3, 7, 0), 1).does("add", 0, 0, 1);
        // The last slot and slot 0 are neighbours that are not shifted: two clusters.
        x.row("0 -1 -1 -1 -1 -1 -1 7", "clusterStart", 0).due(1, "longestCluster", 0);
    }

    private static void constants() {
        CHECKS.due(sentences.withTest("Terms", "The constants: `NONE = -1`"), -1, (Object) QuotientQuoin.NONE);
    }
}
