import java.nio.file.Path;

/** Each sentence of the document's promises has a test of its own here, at the edges that it names. */
public final class EdgeTest {
    private static final Checks CHECKS = new Checks("EdgeTest");
    private static final String INDEX = Run.INDEX;
    private static final String ARGUMENT = Run.ARGUMENT;
    private static final String STATE = Run.STATE;
    private static final int LEAST = Integer.MIN_VALUE;
    private static final int GREATEST = Integer.MAX_VALUE;
    private static final int[] NO_FILTERS = {-1, 4, LEAST, GREATEST};
    private static final int[] NO_FINGERPRINTS = {-1, 4096, LEAST, GREATEST};
    private static final int[] NO_TIMES = {0, -1, 101, LEAST, GREATEST};
    private static final String NO_FILTER = "Throws `IndexOutOfBoundsException`";
    private static final String BAD_ARGUMENT = "Throws `IllegalArgumentException`";
    private static final String BAD_STATE = "Throws `IllegalStateException`";

    // Keys and their fingerprints; OTHER has the same one as ONE. In eight slots the quotients
    // of ONE, THREE and LAST are 4, 6 and 7.
    private static final int ONE = 1;
    private static final int OTHER = -39602;
    private static final int ONE_PRINT = 2531;
    private static final int THREE = 3;
    private static final int THREE_PRINT = 3498;
    private static final int LAST = -193834;
    private static final int LAST_PRINT = 4095;

    private static Sentences sentences;

    public static void main(String[] args) throws Exception {
        sentences = new Sentences(Path.of(args[0], "DOC.md"));
        keys();
        fingerprints();
        wholeFilters();
        whatAFilterHas();
        slots();
        noSuchFilter();
        noSuchFingerprint();
        CHECKS.due("sentences without a test", "[]", (Object) sentences.withoutTest("Promise ").toString());
        CHECKS.due("sentences of the promises", 93, (Object) sentences.size("Promise "));
        CHECKS.end();
    }

    private static Run promise(int number, String beginning) {
        return new Run(CHECKS, sentences.withTest("Promise " + number, beginning));
    }

    /** The fingerprint of a quotient and a remainder in eight slots. */
    private static int of(int quotient, int remainder) {
        return (quotient & 7) * 512 + remainder;
    }

    /** Seven entries of seven fingerprints with one quotient, as many as eight slots may hold. */
    private static Run fullFrom(Run x, int filter, int quotient) {
        for (int i = 0; i < 7; i++) {
            x.does("add", filter, of(quotient, 10 * i), 1);
        }
        return x;
    }

    /** Slots 7, 0, 1, 2 have the run of 7 (2; 5 thrice), 3 that of 0 (9), 4 that of 1 (3). */
    private static Run roundTheEnd(Run x, int filter) {
        x.does("add", filter, of(1, 3), 1).does("add", filter, of(7, 5), 15);
        return x.does("add", filter, of(0, 9), 1).does("add", filter, of(7, 2), 1);
    }

    // ---- promises 1 to 5: keys

    private static void keys() {
        newObject();
        fingerprint();
        insert();
        insertIntoAFullFilter();
        remove();
        count();
    }

    private static void newObject() {
        Run x = promise(1, "Makes four empty filters with eight slots each");
        for (int filter = 0; filter < 4; filter++) {
            x.due(8, "slots", filter).due(0, "entries", filter).due(0, "total", filter);
            x.due(0, "distinct", filter).due(0, "longestCluster", filter);
            x.refused(INDEX, "fingerprintAt", filter, 0).refused(INDEX, "counterAt", filter, 8);
            allEmpty(x, filter);
            x.due(true, "isSame", filter, 0);
            x = x.renewed();
        }
        Run full = fullFrom(x, 1, 7);
        allEmpty(full, 0);
        allEmpty(full, 2);
        allEmpty(promise(1, "Makes four empty filters with eight slots each"), 1);
    }

    private static void allEmpty(Run x, int filter) {
        String none = "-1 -1 -1 -1 -1 -1 -1 -1";
        String zero = "0 0 0 0 0 0 0 0";
        x.row(none, "remainderAt", filter).row(none, "quotientAt", filter).row(zero, "counterAt", filter);
        x.row(zero, "isOccupied", filter).row(zero, "isContinuation", filter).row(zero, "isShifted", filter);
        x.row(none, "runStart", filter).row(zero, "runLength", filter).row(none, "clusterStart", filter);
    }

    private static void fingerprint() {
        Run x = promise(2, "Returns the fingerprint of a key");
        x.due(0, "fingerprint", 0).due(ONE_PRINT, "fingerprint", ONE).due(ONE_PRINT, "fingerprint", OTHER);
        x.due(1564, "fingerprint", -1).due(2048, "fingerprint", LEAST).due(3612, "fingerprint", GREATEST);
        x.due(LAST_PRINT, "fingerprint", LAST).due(THREE_PRINT, "fingerprint", THREE);
        // It is the same whatever the filters hold.
        fullFrom(x, 0, 7).due(LAST_PRINT, "fingerprint", LAST).due(0, "fingerprint", 0);
    }

    private static void insert() {
        Run x = promise(3, "Adds the fingerprint of a key once");
        x.does("insert", 0, LAST).row("0 0 0 0 0 0 0 1", "counterAt", 0);
        x.row("-1 -1 -1 -1 -1 -1 -1 511", "remainderAt", 0);
        for (int i = 0; i < 6; i++) {
            x.does("insert", 0, LAST);
        }
        x.row("0 0 0 0 0 0 0 7", "counterAt", 0).does("insert", 0, LAST).row("1 0 0 0 0 0 0 7", "counterAt", 0);
        x.does("insert", 0, 0).row("1 1 0 0 0 0 0 7", "counterAt", 0);
        x.row("7 0 -1 -1 -1 -1 -1 7", "quotientAt", 0);
        x.due(0, "total", 1).due(0, "total", 2).due(0, "total", 3);
        Run y = promise(3, "Returns its count then");
        y.due(1, "insert", 0, ONE).due(2, "insert", 0, OTHER).due(1, "insert", 0, THREE);
        y.due(1, "insert", 3, ONE);
        for (int count = 3; count <= 42; count++) {
            y.due(count, "insert", 0, ONE);
        }
        y.due(42, "count", 0, ONE).due(1, "count", 0, THREE).due(1, "count", 3, OTHER);
    }

    private static void insertIntoAFullFilter() {
        for (int bits = 3; bits <= 8; bits++) {
            Run x = promise(3, BAD_STATE).grown(0, bits).filled(0);
            x.refused(STATE, "insert", 0, ONE).refused(STATE, "insert", 0, LAST).refused(STATE, "insert", 0, 0);
            // One entry less, and there is room for seven of one key, but not for eight.
            x.does("take", 0, 4090, 7);
            for (int count = 1; count <= 7; count++) {
                x.due(count, "insert", 0, ONE);
            }
            x.refused(STATE, "insert", 0, ONE).refused(STATE, "insert", 0, THREE).due(true, "remove", 0, ONE);
            x.refused(STATE, "insert", 0, THREE).due(7, "insert", 0, OTHER);
        }
        for (int quotient = 0; quotient < 8; quotient++) {
            Run x = fullFrom(promise(3, BAD_STATE), 2, quotient);
            x.refused(STATE, "insert", 2, LAST).refused(STATE, "insert", 2, THREE).due(1, "insert", 1, LAST);
        }
    }

    private static void remove() {
        Run x = promise(4, "Takes the fingerprint of a key out once");
        x.does("remove", 0, ONE).due(0, "total", 0);
        // From eight to seven an entry goes away, from one to none the run.
        x.does("add", 0, LAST_PRINT, 8).does("add", 0, 0, 1).row("1 1 0 0 0 0 0 7", "counterAt", 0);
        x.does("remove", 0, LAST).row("1 0 0 0 0 0 0 7", "counterAt", 0);
        x.row("0 -1 -1 -1 -1 -1 -1 7", "quotientAt", 0);
        x.does("remove", 0, 0).row("0 0 0 0 0 0 0 7", "counterAt", 0).due(false, "isOccupied", 0, 0);
        x.does("remove", 0, 0).due(7, "total", 0).does("remove", 0, LAST).due(6, "count", 0, LAST);
        x.does("remove", 1, LAST).due(6, "count", 0, LAST);
        Run y = promise(4, "Returns whether it was");
        y.due(false, "remove", 0, ONE).does("insert", 0, ONE).does("insert", 0, ONE).does("insert", 0, LAST);
        y.due(false, "remove", 0, THREE).due(false, "remove", 1, ONE).due(true, "remove", 0, OTHER);
        y.due(true, "remove", 0, ONE).due(false, "remove", 0, ONE).due(false, "remove", 0, OTHER);
        y.due(1, "total", 0).due(true, "remove", 0, LAST).due(false, "remove", 0, LAST).due(0, "entries", 0);
        Run z = promise(4, "Returns whether it was").does("add", 0, ONE_PRINT, 49);
        z.due(false, "remove", 0, THREE);
        for (int count = 49; count > 0; count--) {
            z.due(true, "remove", 0, ONE).due((count + 5) / 7, "entries", 0);
        }
        z.due(false, "remove", 0, ONE);
    }

    private static void count() {
        Run x = promise(5, "Returns the count of the fingerprint of a key");
        x.due(0, "count", 0, ONE).due(0, "count", 0, 0).due(0, "count", 0, LEAST).due(0, "count", 3, GREATEST);
        x.does("add", 0, ONE_PRINT, 8).due(8, "count", 0, ONE).due(8, "count", 0, OTHER);
        x.due(0, "count", 1, ONE);
        x.does("add", 0, LAST_PRINT, 35).due(35, "count", 0, LAST).due(8, "count", 0, ONE);
        x.due(0, "count", 0, 0);
        x.does("insert", 1, LEAST).does("insert", 1, GREATEST).due(1, "count", 1, LEAST);
        x.due(1, "count", 1, GREATEST);
    }

    // ---- promises 6 to 10: fingerprints

    private static void fingerprints() {
        add();
        addToAFullFilter();
        take();
        countOf();
        countInLists();
        lookedAt();
    }

    private static void add() {
        Run x = promise(6, "Adds a fingerprint several times");
        x.does("add", 0, 4095, 16).row("7 2 0 0 0 0 0 7", "counterAt", 0);
        x.does("add", 0, 0, 3).row("7 2 3 0 0 0 0 7", "counterAt", 0);
        x.does("add", 0, 4095, 6).row("7 7 1 3 0 0 0 7", "counterAt", 0).due(0, "total", 1);
        Run y = promise(6, "- `times`: 1 to 100").grown(0, 6);
        y.due(1, "add", 0, 0, 1).due(101, "add", 0, 0, 100).due(2, "add", 0, 4095, 2);
        y.due(101, "add", 0, 4095, 99);
        y.refusedFor(NO_TIMES, 2, ARGUMENT, "add", 0, 0, 1).refusedFor(NO_TIMES, 2, ARGUMENT, "add", 1, 0, 1);
        Run z = promise(6, "Returns its count then").grown(1, 8);
        z.due(100, "add", 1, 77, 100).due(200, "add", 1, 77, 100).due(100, "add", 1, 78, 100);
        z.due(207, "add", 1, 77, 7).due(1, "add", 2, 77, 1).due(208, "add", 1, 77, 1);
        for (int count = 308; count <= 1408; count += 100) {
            z.due(count, "add", 1, 77, 100);
        }
        z.due(1463, "add", 1, 77, 55).refused(STATE, "add", 1, 77, 1).due(105, "add", 1, 78, 5);
    }

    private static void addToAFullFilter() {
        for (int bits = 3; bits <= 8; bits++) {
            Run x = promise(6, BAD_STATE).grown(0, bits);
            int most = 7 << (bits - 3);
            if (bits == 3) {
                // From empty to full at once, and one more than that.
                x.refused(STATE, "add", 0, 4090, 50).refused(STATE, "add", 0, 0, 100);
                x.due(49, "add", 0, 4090, 49);
                x.does("clear", 0);
            }
            x.filled(0).due(most, "entries", 0);
            x.refused(STATE, "add", 0, 4090, 1).refused(STATE, "add", 0, 0, 1);
            x.refused(STATE, "add", 0, 4095, 100);
            x.does("take", 0, 4090, 1).refused(STATE, "add", 0, 4090, 2).refused(STATE, "add", 0, 0, 1);
            x.does("add", 0, 4090, 1).due(7 * most, "total", 0);
            // Two entries less, and there is room for one and one, or for fourteen.
            x.does("take", 0, 4090, 14).refused(STATE, "add", 0, 1, 15).due(14, "add", 0, 1, 14);
            x.does("take", 0, 1, 14).does("add", 0, 1, 1).refused(STATE, "add", 0, 2, 8).due(7, "add", 0, 2, 7);
        }
        Run y = promise(6, BAD_STATE).grown(0, 4);
        y.due(98, "add", 0, 0, 98).refused(STATE, "add", 0, 0, 1).does("clear", 0);
        y.refused(STATE, "add", 0, 0, 99);
        y.refused(STATE, "add", 0, 0, 100).grown(1, 5).due(100, "add", 1, 0, 100);
    }

    private static void take() {
        Run x = promise(7, "Takes a fingerprint out several times");
        x.does("take", 0, 4095, 100).due(0, "total", 0);
        x.does("add", 0, 4095, 22).does("add", 0, 0, 3).row("7 7 1 3 0 0 0 7", "counterAt", 0);
        x.does("take", 0, 4095, 8).row("7 3 0 0 0 0 0 7", "counterAt", 0);
        x.does("take", 0, 4094, 8).does("take", 1, 4095, 8).row("7 3 0 0 0 0 0 7", "counterAt", 0);
        x.does("take", 0, 4095, 100).row("3 0 0 0 0 0 0 0", "counterAt", 0).does("take", 0, 0, 3);
        x.due(0, "entries", 0);
        x.row("-1 -1 -1 -1 -1 -1 -1 -1", "remainderAt", 0).row("0 0 0 0 0 0 0 0", "isOccupied", 0);
        Run y = promise(7, "- `times`: 1 to 100").grown(0, 5).does("add", 0, 9, 100).does("add", 0, 9, 96);
        y.refusedFor(NO_TIMES, 2, ARGUMENT, "take", 0, 9, 1).refusedFor(NO_TIMES, 2, ARGUMENT, "take", 1, 9, 1);
        y.due(1, "take", 0, 9, 1).due(100, "take", 0, 9, 100).due(95, "countOf", 0, 9);
        Run z = promise(7, "Returns how often it was taken out");
        z.due(0, "take", 0, 5, 1).due(0, "take", 0, 5, 100).does("add", 0, 5, 20).does("add", 0, 6, 1);
        z.due(0, "take", 0, 4, 1).due(0, "take", 0, 7, 100).due(0, "take", 1, 5, 1);
        z.due(6, "take", 0, 5, 6).due(13, "take", 0, 5, 13).due(1, "take", 0, 5, 2).due(0, "take", 0, 5, 1);
        z.due(1, "take", 0, 6, 1).due(0, "take", 0, 6, 1);
        z.does("add", 0, 4095, 49).due(49, "take", 0, 4095, 49).does("add", 0, 4095, 49);
        z.due(48, "take", 0, 4095, 48);
        z.due(1, "take", 0, 4095, 49);
    }

    /** The counts in a filter, with those of the fingerprints next to each, empty, full, round the end. */
    private static void countsDue(int number, String beginning, String call) {
        Run x = promise(number, beginning);
        x.due(0, call, 0, 0).due(0, call, 0, 4095).due(0, call, 3, 2048);
        roundTheEnd(x, 0).due(15, call, 0, of(7, 5)).due(1, call, 0, of(7, 2)).due(1, call, 0, of(0, 9));
        x.due(1, call, 0, of(1, 3)).due(0, call, 0, of(7, 4)).due(0, call, 0, of(7, 6));
        x.due(0, call, 0, of(0, 5));
        x.due(0, call, 0, of(7, 9)).due(0, call, 0, of(2, 3)).due(0, call, 0, of(7, 0)).due(0, call, 0, 4095);
        x.due(0, call, 1, of(7, 5)).due(0, call, 0, 0);
        for (int quotient = 0; quotient < 8; quotient++) {
            Run y = fullFrom(promise(number, beginning), 0, quotient);
            for (int other = 0; other < 8; other++) {
                for (int i = 0; i < 7; i++) {
                    y.due(other == quotient ? 1 : 0, call, 0, of(other, 10 * i));
                    y.due(0, call, 0, of(other, 10 * i + 1));
                }
            }
        }
        for (int bits = 3; bits <= 8; bits++) {
            Run y = promise(number, beginning).grown(0, bits);
            y.does("add", 0, 0, 2).does("add", 0, 4095, 20).does("add", 0, 1, 3).does("add", 0, 4094, 8);
            y.due(2, call, 0, 0).due(20, call, 0, 4095).due(3, call, 0, 1).due(8, call, 0, 4094);
            y.due(0, call, 0, 2).due(0, call, 0, 4093).due(0, call, 0, 2048);
            Run full = promise(number, beginning).grown(1, bits).filled(1);
            full.due(7 * Math.min(14, 7 << (bits - 3)), call, 1, 4090).due(0, call, 1, 4091).due(0, call, 1, 0);
        }
    }

    private static void countOf() {
        countsDue(8, "Returns the count of a fingerprint, found in the run", "countOf");
    }

    private static void countInLists() {
        countsDue(9, "Returns the same count, found in plain lists", "countInLists");
        // The lists of one filter are none of another one's.
        Run x = promise(9, "Returns the same count, found in plain lists").grown(0, 8).filled(0);
        x.due(98, "countInLists", 0, 4090).due(0, "countInLists", 1, 4090).does("add", 1, 4090, 2);
        x.due(2, "countInLists", 1, 4090).does("clear", 0).due(0, "countInLists", 0, 4090);
    }

    private static void lookedAt() {
        Run x = roundTheEnd(promise(10, "Returns how many entries of a run are looked at"), 0);
        // Less than the first, the first itself, between two, the first one of three that are
        // alike, and greater than the last one: up to the end of the run, not of the cluster.
        x.due(1, "lookedAt", 0, of(7, 0)).due(1, "lookedAt", 0, of(7, 1)).due(1, "lookedAt", 0, of(7, 2));
        x.due(2, "lookedAt", 0, of(7, 3)).due(2, "lookedAt", 0, of(7, 5)).due(4, "lookedAt", 0, of(7, 6));
        x.due(4, "lookedAt", 0, 4095).due(1, "lookedAt", 0, of(0, 8)).due(1, "lookedAt", 0, of(0, 9));
        x.due(1, "lookedAt", 0, of(0, 10)).due(1, "lookedAt", 0, of(1, 511)).due(1, "lookedAt", 0, of(1, 0));
        for (int quotient = 0; quotient < 8; quotient++) {
            Run y = fullFrom(promise(10, "Returns how many entries of a run are looked at"), 0, quotient);
            for (int i = 0; i < 7; i++) {
                y.due(i + 1, "lookedAt", 0, of(quotient, 10 * i));
                y.due(Math.min(7, i + 2), "lookedAt", 0, of(quotient, 10 * i + 1));
            }
        }
        Run many = promise(10, "Returns how many entries of a run are looked at").grown(0, 8);
        for (int i = 0; i < 14; i++) {
            many.does("add", 0, 4080 + i, 100);
        }
        many.due(1, "lookedAt", 0, 4080).due(16, "lookedAt", 0, 4081).due(196, "lookedAt", 0, 4093);
        many.due(210, "lookedAt", 0, 4094).due(210, "lookedAt", 0, 4095).due(0, "lookedAt", 0, 4079);
        Run z = promise(10, "Returns how many; 0 if there is no run");
        z.due(0, "lookedAt", 0, 0).due(0, "lookedAt", 0, 4095);
        // No run of 2 to 6, though slots 2, 3 and 4 are taken; none in another filter.
        roundTheEnd(z, 0);
        for (int quotient = 2; quotient <= 6; quotient++) {
            z.due(0, "lookedAt", 0, of(quotient, 0)).due(0, "lookedAt", 0, of(quotient, 5));
        }
        z.due(0, "lookedAt", 1, of(7, 5)).does("clear", 0).due(0, "lookedAt", 0, of(7, 5));
    }

    // ---- promises 11 to 16: whole filters

    private static void wholeFilters() {
        clear();
        grow();
        growBeyondTheMost();
        shrink();
        shrinkTooFar();
        merge();
        mergeTheOtherStays();
        mergeTooMuch();
        intersect();
        isSame();
    }

    private static void clear() {
        Run x = promise(11, "Empties a filter");
        x.due("nothing", "clear", 0);
        allEmpty(x, 0);
        roundTheEnd(roundTheEnd(x, 0), 1).due("nothing", "clear", 0).due(6, "entries", 1);
        allEmpty(x, 0);
        x.due(0, "entries", 0).due(0, "total", 0).due(0, "distinct", 0).due(0, "longestCluster", 0);
        x = x.renewed();
        x.refused(INDEX, "fingerprintAt", 0, 0).due(true, "isSame", 0, 2).due(0, "countOf", 0, of(7, 5));
        fullFrom(x, 0, 3).refused(STATE, "add", 0, 0, 1).does("clear", 0).due(49, "add", 0, 0, 49);
        for (int bits = 3; bits <= 8; bits++) {
            Run y = promise(11, "Its number of slots stays").grown(2, bits).does("clear", 2);
            y.due(1 << bits, "slots", 2).filled(2).does("clear", 2).due(1 << bits, "slots", 2);
            y.due(0, "counterAt", 2, (1 << bits) - 1).refused(INDEX, "counterAt", 2, 1 << bits);
            y.filled(2).due(7 << (bits - 3), "entries", 2).due(8, "slots", 1);
        }
    }

    private static void grow() {
        Run x = promise(12, "Doubles the number of slots of a filter");
        Run y = promise(12, "Returns the number of slots then");
        Run z = promise(12, "All counts stay");
        roundTheEnd(y, 0);
        roundTheEnd(z, 0).filled(1);
        for (int slots = 16; slots <= 256; slots *= 2) {
            x.does("grow", 0).due(slots, "slots", 0).due(8, "slots", 1).due(0, "counterAt", 0, slots - 1);
            x.refused(INDEX, "counterAt", 0, slots).refused(INDEX, "runStart", 0, slots);
            y.due(slots, "grow", 0).due(slots, "grow", 1);
            z.does("grow", 0).does("grow", 1).due(15, "countOf", 0, of(7, 5)).due(1, "countOf", 0, of(7, 2));
            z.due(1, "countOf", 0, of(0, 9)).due(1, "countOf", 0, of(1, 3)).due(18, "total", 0);
            z.due(4, "distinct", 0);
            z.due(6, "entries", 0).due(49, "countOf", 1, 4090).due(49, "total", 1);
        }
        // The last slot of eight becomes the last two of sixteen: a run no longer goes round.
        Run w = promise(12, "Doubles the number of slots of a filter");
        roundTheEnd(w, 0).does("grow", 0);
        w.row("14 14 0 2 -1 -1 -1 -1 -1 -1 -1 -1 -1 -1 14 14", "quotientAt", 0).does("grow", 0);
        w.due(28, "quotientAt", 0, 28).due(28, "quotientAt", 0, 31).due(0, "quotientAt", 0, 0);
        w.due(4, "quotientAt", 0, 4);
    }

    private static void growBeyondTheMost() {
        Run x = promise(12, BAD_STATE).grown(0, 8).grown(1, 8).grown(2, 7);
        x.filled(1).refused(STATE, "grow", 0).refused(STATE, "grow", 1).due(256, "slots", 0);
        x.due(256, "slots", 1);
        x.due(256, "grow", 2).refused(STATE, "grow", 2).due(128, "shrink", 2).due(256, "grow", 2);
    }

    private static void shrink() {
        Run x = promise(13, "Halves the number of slots of a filter").grown(0, 8);
        Run y = promise(13, "Returns the number of slots then").grown(0, 8).grown(1, 8);
        Run z = promise(13, "All counts stay").grown(0, 8);
        roundTheEnd(y, 1);
        roundTheEnd(z, 0);
        for (int slots = 128; slots >= 8; slots /= 2) {
            x.does("shrink", 0).due(slots, "slots", 0).due(8, "slots", 1).due(0, "counterAt", 0, slots - 1);
            x.refused(INDEX, "counterAt", 0, slots).refused(INDEX, "runLength", 0, slots);
            y.due(slots, "shrink", 0).due(slots, "shrink", 1);
            z.does("shrink", 0).due(15, "countOf", 0, of(7, 5)).due(1, "countOf", 0, of(7, 2));
            z.due(1, "countOf", 0, of(0, 9)).due(1, "countOf", 0, of(1, 3)).due(18, "total", 0);
            z.due(4, "distinct", 0);
        }
        // The last two slots of sixteen become the last of eight: a run goes round now.
        Run w = promise(13, "Halves the number of slots of a filter").grown(0, 4);
        roundTheEnd(w, 0).does("shrink", 0).row("7 7 7 0 1 -1 -1 7", "quotientAt", 0);
        w.row("5 5 5 9 3 -1 -1 2", "remainderAt", 0).row("7 7 1 1 1 0 0 1", "counterAt", 0);
    }

    private static void shrinkTooFar() {
        Run x = promise(13, BAD_STATE).grown(3, 8);
        roundTheEnd(x, 1).refused(STATE, "shrink", 0).refused(STATE, "shrink", 1);
        fullFrom(x, 2, 6).refused(STATE, "shrink", 2).due(128, "shrink", 3);
        for (int bits = 4; bits <= 8; bits++) {
            int most = 7 << (bits - 4);
            // Just as many entries as half the slots may hold, one more, and all slots full.
            Run y = promise(13, BAD_STATE).grown(0, bits - 1).filled(0).does("grow", 0);
            y.due(1 << (bits - 1), "shrink", 0).does("grow", 0).does("add", 0, 1, 1);
            y.due(most + 1, "entries", 0);
            y.refused(STATE, "shrink", 0).due(1 << bits, "slots", 0).filled(0).refused(STATE, "shrink", 0);
            y.does("clear", 0).due(1 << (bits - 1), "shrink", 0);
        }
    }

    private static void merge() {
        Run x = promise(14, "Adds all fingerprints of another filter to a filter");
        x.does("merge", 0, 1).due(0, "total", 0);
        roundTheEnd(x, 1).does("merge", 0, 1).due(true, "isSame", 0, 1);
        x.does("merge", 0, 2).due(true, "isSame", 0, 1);
        // Counters that add up to seven, to more than that, and fingerprints of one filter only.
        Run y = promise(14, "Adds all fingerprints of another filter to a filter").grown(1, 8);
        y.does("add", 0, 4095, 3).does("add", 0, 4094, 4).does("add", 0, 100, 1);
        y.does("add", 1, 4095, 4).does("add", 1, 4094, 4).does("add", 1, 0, 2);
        y.does("merge", 0, 1).row("1 7 2 1 0 0 0 7", "counterAt", 0).due(8, "slots", 0);
        y = y.renewed();
        y.does("clear", 0).does("add", 0, 4094, 4).does("add", 0, 4093, 4);
        y.does("merge", 0, 1).due(8, "countOf", 0, 4094).due(4, "countOf", 0, 4095).due(4, "countOf", 0, 4093);
        y.row("7 1 4 2 0 0 0 4", "counterAt", 0).row("7 7 7 0 -1 -1 -1 7", "quotientAt", 0);
        Run z = promise(14, "Returns how many entries the filter has then");
        z.due(0, "merge", 0, 1).due(0, "merge", 0, 0);
        roundTheEnd(z, 1).due(6, "merge", 0, 1).due(6, "merge", 1, 2).due(6, "entries", 1);
        z.does("add", 2, of(7, 5), 6).due(6, "merge", 0, 2).does("clear", 2).does("add", 2, of(7, 5), 1);
        z.due(7, "merge", 0, 2).due(7, "entries", 0).does("grow", 0).due(10, "merge", 0, 0);
    }

    private static void mergeTheOtherStays() {
        Run x = promise(14, "The other filter stays as it is").grown(1, 5);
        roundTheEnd(roundTheEnd(x, 1), 3).does("add", 0, 77, 3).does("merge", 0, 1);
        x.due(32, "slots", 1).due(true, "isSame", 1, 3).due(28, "quotientAt", 1, 28);
        x.due(28, "quotientAt", 1, 31);
        x.does("clear", 0).due(true, "isSame", 1, 3).does("merge", 2, 0).due(0, "total", 0);
        // The same filter: a count of 24 doubled has just as many entries as eight slots may hold.
        Run y = promise(14, "The other filter stays as it is");
        y.does("merge", 0, 0).due(0, "total", 0).does("add", 0, 4095, 24).does("merge", 0, 0);
        y.due(48, "countOf", 0, 4095).due(7, "entries", 0).row("7 7 7 7 7 6 0 7", "counterAt", 0);
        y.does("clear", 0).does("add", 0, 0, 1).does("add", 0, 600, 3).does("add", 0, 4095, 7);
        y.does("merge", 0, 0);
        y.due(2, "countOf", 0, 0).due(6, "countOf", 0, 600).due(14, "countOf", 0, 4095).due(22, "total", 0);
        y.due(8, "slots", 0).does("clear", 0).does("add", 0, 4095, 25).refused(STATE, "merge", 0, 0);
    }

    private static void mergeTooMuch() {
        for (int bits = 3; bits <= 8; bits++) {
            Run x = promise(14, BAD_STATE).grown(0, bits).grown(1, bits);
            int most = 7 << (bits - 3);
            x.filled(0).due(most, "merge", 0, 1).due(most, "merge", 1, 0).refused(STATE, "merge", 0, 1);
            x.refused(STATE, "merge", 0, 0).does("clear", 1).does("add", 1, 1, 1).refused(STATE, "merge", 0, 1);
            x.refused(STATE, "merge", 1, 0).does("take", 0, 4090, 7).due(most, "merge", 0, 1);
        }
        // 224 fingerprints with themselves still fit, with 224 others they don't.
        Run y = promise(14, BAD_STATE).grown(0, 8).grown(1, 8);
        for (int i = 0; i < 224; i++) {
            y.does("add", 0, 18 * i, 1);
        }
        // Counts of 2, 4 and 6 have one entry each, those of 8 have two.
        y.due(224, "merge", 0, 0).due(224, "merge", 1, 0).due(224, "merge", 1, 0).due(224, "merge", 1, 0);
        y.due(1344, "total", 1).refused(STATE, "merge", 1, 0).refused(STATE, "merge", 2, 0);
        Run z = promise(14, BAD_STATE).grown(0, 8).grown(1, 8);
        for (int i = 0; i < 224; i++) {
            z.does("add", 0, 2 * i, 1).does("add", 1, 4095 - 2 * i, 1);
        }
        z.due(STATE, "merge", 0, 1).due(STATE, "merge", 1, 0).due(224, "entries", 0).due(224, "total", 0);
        z.due(224, "total", 1).due(false, "isSame", 0, 1).due(0, "intersect", 0, 1);
    }

    private static void intersect() {
        Run x = promise(15, "Makes each count of a filter the lesser one of its counts").grown(1, 8);
        x.does("intersect", 0, 2).due(0, "total", 0);
        roundTheEnd(roundTheEnd(x, 0), 2).does("add", 1, of(7, 5), 8);
        x.does("add", 1, of(0, 9), 5).does("add", 1, 9, 1);
        x.does("add", 1, of(1, 4), 1).does("add", 1, of(7, 1), 1).does("intersect", 0, 1);
        x.row("1 1 0 0 0 0 0 7", "counterAt", 0).row("7 0 -1 -1 -1 -1 -1 7", "quotientAt", 0);
        x.due(8, "slots", 0);
        // The other filter stays, with its slots.
        x.due(256, "slots", 1).due(16, "total", 1).due(4, "distinct", 1).due(6, "countOf", 1, 9);
        // With itself nothing changes; with an empty one, or of an empty one, all are none.
        x.does("intersect", 2, 2).row("7 7 1 1 1 0 0 1", "counterAt", 2).does("intersect", 3, 2);
        x.due(0, "total", 3);
        x.due(18, "total", 2).does("intersect", 2, 3).due(0, "total", 2).due(0, "total", 3);
        Run y = promise(15, "Returns how many entries the filter has then").grown(1, 8).grown(2, 8);
        y.due(0, "intersect", 0, 3).due(0, "intersect", 0, 0).due(0, "intersect", 1, 0);
        y.filled(1).filled(0).due(7, "intersect", 0, 0).due(7, "intersect", 0, 1).due(224, "intersect", 1, 1);
        y.does("add", 2, 4090, 43).due(7, "intersect", 0, 2).due(43, "total", 0).due(7, "intersect", 2, 1);
        y.does("take", 2, 4090, 1).due(6, "intersect", 0, 2).due(6, "intersect", 1, 0);
        y.due(0, "intersect", 1, 3);
    }

    private static void isSame() {
        Run x = promise(16, "Tells whether two filters have the same counts").grown(1, 8);
        x.due(true, "isSame", 0, 1).due(true, "isSame", 1, 0).due(true, "isSame", 2, 2);
        roundTheEnd(x, 0).due(false, "isSame", 0, 1).due(false, "isSame", 1, 0).due(true, "isSame", 0, 0);
        roundTheEnd(x, 1).due(true, "isSame", 0, 1).due(true, "isSame", 1, 0);
        // One count is another one, one fingerprint more, one fingerprint for another one.
        x.does("take", 1, of(7, 5), 1).due(false, "isSame", 0, 1).does("add", 1, of(7, 5), 2);
        x.due(false, "isSame", 1, 0);
        x.does("take", 1, of(7, 5), 1).due(true, "isSame", 0, 1).does("add", 1, 4095, 1);
        x.due(false, "isSame", 0, 1);
        x.due(false, "isSame", 1, 0).does("take", 1, 4095, 1).does("take", 1, of(0, 9), 1);
        x.due(false, "isSame", 0, 1);
        x.does("add", 1, of(0, 8), 1).due(false, "isSame", 0, 1).due(18, "total", 1).due(4, "distinct", 1);
        for (int bits = 4; bits <= 8; bits++) {
            Run y = promise(16, "Tells whether two filters have the same counts").grown(0, bits);
            y.grown(1, bits - 1);
            y.filled(1).does("merge", 0, 1).due(true, "isSame", 0, 1).due(true, "isSame", 1, 0);
            y.filled(0).due(false, "isSame", 0, 1).due(false, "isSame", 1, 0);
        }
    }

    // ---- promises 17 to 21: what a filter has

    private static void whatAFilterHas() {
        for (int bits = 3; bits <= 8; bits++) {
            int most = 7 << (bits - 3);
            Run x = promise(17, "Returns the number of slots of a filter").grown(1, bits);
            x.due(1 << bits, "slots", 1);
            x.filled(1).due(1 << bits, "slots", 1).due(8, "slots", 0).due(8, "slots", 2);
            Run y = promise(18, "Returns the number of entries of a filter").grown(1, bits);
            y.due(0, "entries", 1);
            y.filled(1).due(most, "entries", 1).does("take", 1, 4090, 1).due(most, "entries", 1);
            y.does("take", 1, 4090, 6).due(most - 1, "entries", 1).due(0, "entries", 0);
            Run z = promise(20, "Returns the sum of all counts of a filter").grown(1, bits).due(0, "total", 1);
            z.filled(1).due(7 * most, "total", 1).does("take", 1, 4090, 1).due(7 * most - 1, "total", 1);
            z.due(0, "total", 0).does("clear", 1).due(0, "total", 1);
            distinctIn(bits);
        }
        Run x = roundTheEnd(promise(18, "Returns the number of entries of a filter"), 2).due(6, "entries", 2);
        x.does("add", 2, of(7, 5), 6).due(6, "entries", 2).does("add", 2, of(7, 5), 1).due(7, "entries", 2);
        roundTheEnd(promise(20, "Returns the sum of all counts of a filter"), 2).due(18, "total", 2);
        fingerprintAt();
    }

    private static void distinctIn(int bits) {
        int most = 7 << (bits - 3);
        Run x = promise(19, "Returns the number of different fingerprints of a filter").grown(0, bits);
        x.due(0, "distinct", 0);
        for (int i = 1; i <= most; i++) {
            x.does("add", 0, 4096 - i, 1);
        }
        x.due(most, "distinct", 0).does("add", 0, 4095, 6).due(most, "distinct", 0).due(0, "distinct", 1);
        x.does("take", 0, 4095, 6).due(most, "distinct", 0).does("take", 0, 4095, 1);
        x.due(most - 1, "distinct", 0);
        x.does("clear", 0).due(0, "distinct", 0).does("add", 0, 4095, 49).due(1, "distinct", 0);
    }

    private static void fingerprintAt() {
        Run x = promise(21, "Returns a fingerprint of a filter");
        x.does("add", 0, 4095, 9).due(4095, "fingerprintAt", 0, 0).does("add", 0, 0, 9);
        x.due(0, "fingerprintAt", 0, 0);
        x.due(4095, "fingerprintAt", 0, 1).does("take", 0, 0, 9).due(4095, "fingerprintAt", 0, 0);
        // The least one is not in the first slot that is taken, nor the greatest in the last.
        Run y = roundTheEnd(promise(21, "- `place`: 0 for the least one"), 0);
        y.due(of(0, 9), "fingerprintAt", 0, 0).due(of(1, 3), "fingerprintAt", 0, 1);
        y.due(of(7, 2), "fingerprintAt", 0, 2).due(of(7, 5), "fingerprintAt", 0, 3);
        for (int quotient = 0; quotient < 8; quotient++) {
            Run z = promise(21, "- `place`: 0 for the least one");
            for (int i = 6; i >= 0; i--) {
                z.does("add", 0, of(quotient, 10 * i), 1);
            }
            for (int i = 0; i < 7; i++) {
                z.due(of(quotient, 10 * i), "fingerprintAt", 0, i);
            }
        }
        noSuchPlace();
    }

    private static void noSuchPlace() {
        Run x = promise(21, NO_FILTER);
        x.refusedFor(new int[] {-1, 0, 1, 7, 8, LEAST, GREATEST}, 1, INDEX, "fingerprintAt", 0, 0);
        roundTheEnd(x, 0).due(of(7, 5), "fingerprintAt", 0, 3);
        x.refusedFor(new int[] {-1, 4, 5, 6, 7, 8, LEAST, GREATEST}, 1, INDEX, "fingerprintAt", 0, 0);
        for (int bits = 3; bits <= 8; bits++) {
            int most = 7 << (bits - 3);
            Run y = promise(21, NO_FILTER).grown(1, bits);
            for (int i = 0; i < most; i++) {
                y.does("add", 1, 4095 - 18 * i, 1);
            }
            y.due(4095 - 18 * (most - 1), "fingerprintAt", 1, 0).due(4095, "fingerprintAt", 1, most - 1);
            y.refusedFor(new int[] {-1, most, most + 1, GREATEST}, 1, INDEX, "fingerprintAt", 1, 0);
        }
    }

    // ---- promises 22 to 31: slots

    private static void slots() {
        remainderAndCounter();
        quotientAndFlags();
        runs();
        leastAndGreatestQuotient();
        clusterStart();
        longestCluster();
        noSuchSlot();
    }

    private static void remainderAndCounter() {
        Run x = roundTheEnd(promise(22, "Returns the remainder in a slot"), 0);
        x.row("5 5 5 9 3 -1 -1 2", "remainderAt", 0);
        // The least and the greatest remainder, at the most and the fewest slots.
        x.does("clear", 0).does("add", 0, 511, 1).does("add", 0, 512, 1).due(511, "remainderAt", 0, 0);
        x.due(0, "remainderAt", 0, 1).grown(0, 8).due(15, "remainderAt", 0, 31).due(0, "remainderAt", 0, 32);
        Run y = promise(22, "Returns the remainder; NONE if the slot is empty");
        y.row("-1 -1 -1 -1 -1 -1 -1 -1", "remainderAt", 0).does("add", 0, 0, 1);
        y.row("0 -1 -1 -1 -1 -1 -1 -1", "remainderAt", 0).does("take", 0, 0, 1).due(-1, "remainderAt", 0, 0);
        fullFrom(y, 0, 2).row("60 -1 0 10 20 30 40 50", "remainderAt", 0);
        Run z = roundTheEnd(promise(23, "Returns the counter in a slot"), 0);
        z.row("7 7 1 1 1 0 0 1", "counterAt", 0);
        z.does("take", 0, of(7, 5), 1).row("7 7 1 1 0 0 0 1", "counterAt", 0);
        Run w = promise(23, "Returns the counter, 1 to 7; 0 if the slot is empty");
        w.row("0 0 0 0 0 0 0 0", "counterAt", 0);
        for (int counter = 1; counter <= 7; counter++) {
            w.does("add", 0, 4095, 1).due(counter, "counterAt", 0, 7).due(0, "counterAt", 0, 0);
        }
        w.does("add", 0, 4095, 1).due(7, "counterAt", 0, 7).due(1, "counterAt", 0, 0);
        w.does("take", 0, 4095, 8).row("0 0 0 0 0 0 0 0", "counterAt", 0);
        fullFrom(w, 0, 2).row("1 0 1 1 1 1 1 1", "counterAt", 0);
    }

    private static void quotientAndFlags() {
        Run x = roundTheEnd(promise(24, "Returns the quotient to whose run the entry in a slot belongs"), 0);
        x.row("7 7 7 0 1 -1 -1 7", "quotientAt", 0);
        Run y = promise(24, "Returns the quotient; NONE if the slot is empty");
        y.row("-1 -1 -1 -1 -1 -1 -1 -1", "quotientAt", 0).does("add", 0, 0, 1);
        y.row("0 -1 -1 -1 -1 -1 -1 -1", "quotientAt", 0);
        y.does("take", 0, 0, 1).due(-1, "quotientAt", 0, 0);
        fullFrom(y, 0, 2).row("2 -1 2 2 2 2 2 2", "quotientAt", 0);
        Run occupied = promise(25, "Tells whether a slot is occupied").row("0 0 0 0 0 0 0 0", "isOccupied", 0);
        roundTheEnd(occupied, 0).row("1 1 0 0 0 0 0 1", "isOccupied", 0);
        fullFrom(occupied, 1, 2).row("0 0 1 0 0 0 0 0", "isOccupied", 1);
        Run continuation = promise(26, "Tells whether a slot is a continuation");
        continuation.row("0 0 0 0 0 0 0 0", "isContinuation", 0);
        roundTheEnd(continuation, 0).row("1 1 1 0 0 0 0 0", "isContinuation", 0);
        fullFrom(continuation, 1, 2).row("1 0 0 1 1 1 1 1", "isContinuation", 1);
        Run shifted = promise(27, "Tells whether a slot is shifted").row("0 0 0 0 0 0 0 0", "isShifted", 0);
        roundTheEnd(shifted, 0).row("1 1 1 1 1 0 0 0", "isShifted", 0);
        fullFrom(shifted, 1, 2).row("1 0 0 1 1 1 1 1", "isShifted", 1);
    }

    private static void runs() {
        Run x = roundTheEnd(promise(28, "Returns the slot in which the run of a quotient begins"), 0);
        x.row("3 4 -1 -1 -1 -1 -1 7", "runStart", 0);
        Run y = promise(28, "Returns the slot; NONE if there is no run of the quotient");
        y.row("-1 -1 -1 -1 -1 -1 -1 -1", "runStart", 0);
        // No run of 3 to 7, 0 and 1, though all but the last of these slots are taken.
        fullFrom(y, 0, 2).row("-1 -1 2 -1 -1 -1 -1 -1", "runStart", 0);
        y.does("take", 0, of(2, 0), 1).does("add", 0, 4095, 1).row("-1 -1 2 -1 -1 -1 -1 0", "runStart", 0);
        Run z = promise(29, "Returns the number of entries of the run of a quotient");
        z.row("0 0 0 0 0 0 0 0", "runLength", 0);
        roundTheEnd(z, 0).row("1 1 0 0 0 0 0 4", "runLength", 0);
        fullFrom(z, 1, 2).row("0 0 7 0 0 0 0 0", "runLength", 1);
    }

    private static void leastAndGreatestQuotient() {
        for (int bits = 3; bits <= 8; bits++) {
            int slots = 1 << bits;
            int most = slots / 8 * 7;
            Run start = promise(28, "- `quotient`: 0 to the number of slots, minus 1").grown(0, bits);
            start.due(-1, "runStart", 0, 0).due(-1, "runStart", 0, slots - 1);
            start.does("add", 0, 4095, 8).does("add", 0, 0, 1);
            start.due(slots - 1, "runStart", 0, slots - 1).due(1, "runStart", 0, 0);
            start.refusedFor(new int[] {-1, slots, LEAST, GREATEST}, 1, INDEX, "runStart", 0, 0);
            Run length = promise(29, "- `quotient`: 0 to the number of slots, minus 1").grown(0, bits);
            length.due(0, "runLength", 0, 0).due(0, "runLength", 0, slots - 1);
            for (int left = most; left > 0; left -= 7) {
                length.does("add", 0, 4095, 49);
            }
            length.due(most, "runLength", 0, slots - 1).due(0, "runLength", 0, 0);
            length.due(0, "runLength", 0, slots - 2);
            length.refusedFor(new int[] {-1, slots, LEAST, GREATEST}, 1, INDEX, "runLength", 0, 0);
        }
    }

    private static void clusterStart() {
        Run x = roundTheEnd(promise(30, "Returns the first slot of the cluster"), 0);
        x.row("7 7 7 7 7 -1 -1 7", "clusterStart", 0);
        // A cluster begins at each slot that is not shifted, even without an empty slot before it.
        x.does("add", 0, of(5, 0), 1).row("7 7 7 7 7 5 -1 7", "clusterStart", 0);
        x.does("clear", 0).does("add", 0, 0, 1).does("add", 0, 512, 8).does("add", 0, 4095, 1);
        x.row("0 1 1 -1 -1 -1 -1 7", "clusterStart", 0);
        Run y = promise(30, "Returns the slot; NONE if the given slot is empty");
        y.row("-1 -1 -1 -1 -1 -1 -1 -1", "clusterStart", 0);
        fullFrom(y, 0, 2).row("2 -1 2 2 2 2 2 2", "clusterStart", 0);
        y.does("clear", 0).due(-1, "clusterStart", 0, 2);
    }

    private static void longestCluster() {
        Run z = promise(31, "Returns the number of entries of the longest cluster").due(0, "longestCluster", 0);
        z.does("add", 0, 4095, 1).due(1, "longestCluster", 0).does("add", 0, 0, 1).due(1, "longestCluster", 0);
        // Two of two, a longer one behind, a longer one before, and one round the end.
        z.does("clear", 0).does("add", 0, 0, 8).does("add", 0, 1024, 8).due(2, "longestCluster", 0);
        z.does("add", 0, 1024, 7).due(3, "longestCluster", 0).does("take", 0, 1024, 14);
        z.due(2, "longestCluster", 0).does("add", 0, 3584, 8).due(5, "longestCluster", 0);
        z.does("clear", 0).due(0, "longestCluster", 0);
        roundTheEnd(z, 0).due(6, "longestCluster", 0).does("add", 0, of(5, 0), 1).due(6, "longestCluster", 0);
        for (int bits = 3; bits <= 8; bits++) {
            int most = 7 << (bits - 3);
            Run full = promise(31, "Returns the number of entries of the longest cluster").grown(0, bits);
            full.due(0, "longestCluster", 0);
            for (int left = most; left > 0; left -= 7) {
                full.does("add", 0, 4095, 49);
            }
            full.due(most, "longestCluster", 0).due(0, "longestCluster", 1).does("take", 0, 4095, 7);
            full.due(most - 1, "longestCluster", 0).does("clear", 0).due(0, "longestCluster", 0);
        }
    }

    private static void noSuchSlot() {
        String[] calls = {"remainderAt", "counterAt", "quotientAt", "isOccupied", "isContinuation", "isShifted",
            "runStart", "runLength", "clusterStart"};
        for (int i = 0; i < calls.length; i++) {
            String call = calls[i];
            for (int bits = 3; bits <= 8; bits++) {
                int slots = 1 << bits;
                Run x = promise(22 + i, NO_FILTER).grown(0, bits);
                x.does(call, 0, 0).does(call, 0, slots - 1);
                x.refusedFor(new int[] {-1, slots, slots + 1, LEAST, GREATEST}, 1, INDEX, call, 0, 0);
                x.filled(0).does(call, 0, slots - 1).refused(INDEX, call, 0, -1).refused(INDEX, call, 0, slots);
                // The slots of another filter are none of this one.
                x.refused(INDEX, call, 1, 8).refused(INDEX, call, 4, 0).refused(INDEX, call, 4, slots);
            }
            Run y = promise(22 + i, NO_FILTER).grown(0, 8).does(call, 0, 255).does("shrink", 0);
            y.refused(INDEX, call, 0, 255).refused(INDEX, call, 0, 128).does(call, 0, 127);
        }
    }

    // ---- what many promises refuse

    // The promise, the call, and ordinary numbers for what comes behind the filter.
    private static final String[] WITH_FILTER = {"3 insert 1", "4 remove 1", "5 count 1", "6 add 5 1", "7 take 5 1",
        "8 countOf 5", "9 countInLists 5", "10 lookedAt 5", "11 clear", "12 grow", "13 shrink", "14 merge 0",
        "15 intersect 0", "16 isSame 0", "17 slots", "18 entries", "19 distinct", "20 total", "21 fingerprintAt 0",
        "22 remainderAt 0", "23 counterAt 0", "24 quotientAt 0", "25 isOccupied 0", "26 isContinuation 0",
        "27 isShifted 0", "28 runStart 0", "29 runLength 0", "30 clusterStart 0", "31 longestCluster"};

    private static void noSuchFilter() {
        for (String line : WITH_FILTER) {
            String[] words = line.split(" ");
            int[] arguments = new int[words.length - 1];
            for (int i = 1; i < arguments.length; i++) {
                arguments[i] = Integer.parseInt(words[i + 1]);
            }
            Run empty = promise(Integer.parseInt(words[0]), NO_FILTER);
            Run full = promise(Integer.parseInt(words[0]), NO_FILTER);
            for (int filter = 0; filter < 4; filter++) {
                fullFrom(full, filter, 7);
            }
            empty.refusedFor(NO_FILTERS, 0, INDEX, words[1], arguments);
            full.refusedFor(NO_FILTERS, 0, INDEX, words[1], arguments);
            // Now with numbers behind the filter that are no good either, first one, then both.
            for (int i = 1; i < arguments.length; i++) {
                arguments[i] = GREATEST;
                full.refusedFor(NO_FILTERS, 0, INDEX, words[1], arguments);
            }
        }
        for (String line : new String[] {"14 merge", "15 intersect", "16 isSame"}) {
            String[] words = line.split(" ");
            Run x = promise(Integer.parseInt(words[0]), NO_FILTER);
            for (int filter = 0; filter < 4; filter++) {
                fullFrom(x, filter, 7 - filter);
                x.refusedFor(NO_FILTERS, 1, INDEX, words[1], filter, 0);
            }
            x.refused(INDEX, words[1], 4, 4).refused(INDEX, words[1], -1, -1);
        }
    }

    private static void noSuchFingerprint() {
        String[] lines = {"6 add 0 0 1", "7 take 0 0 1", "8 countOf 0 0", "9 countInLists 0 0", "10 lookedAt 0 0"};
        for (String line : lines) {
            String[] words = line.split(" ");
            int[] arguments = new int[words.length - 2];
            for (int i = 0; i < arguments.length; i++) {
                arguments[i] = Integer.parseInt(words[i + 2]);
            }
            Run x = promise(Integer.parseInt(words[0]), BAD_ARGUMENT);
            x.refusedFor(NO_FINGERPRINTS, 1, ARGUMENT, words[1], arguments);
            // The least and the greatest one are good.
            arguments[1] = 4095;
            x.does(words[1], arguments);
            arguments[1] = 0;
            x.does(words[1], arguments);
            x.filled(0).refusedFor(NO_FINGERPRINTS, 1, ARGUMENT, words[1], arguments);
            if (arguments.length == 3) {
                x.refusedFor(NO_TIMES, 2, ARGUMENT, words[1], arguments);
                x.refused(ARGUMENT, words[1], 0, 4096, 101).refused(ARGUMENT, words[1], 0, -1, 0);
            }
        }
    }
}
