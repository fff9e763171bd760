/** Each promise of the document by hand: ordinary inputs, the edges it names, wrong inputs. */
public final class PromiseTest {
    private static final Checks CHECKS = new Checks("PromiseTest");
    private static final String INDEX = "throws java.lang.IndexOutOfBoundsException";
    private static final String ARGUMENT = "throws java.lang.IllegalArgumentException";
    private static final String STATE = "throws java.lang.IllegalStateException";
    private static final int LEAST = Integer.MIN_VALUE;
    private static final int GREATEST = Integer.MAX_VALUE;
    private static final int[] NO_FILTERS = {-1, 4, 5, LEAST, GREATEST};

    private interface Of {
        Object answer(int number);
    }

    public static void main(String[] args) {
        constants();
        newObject();
        fingerprint();
        insert();
        remove();
        count();
        add();
        take();
        countsFound();
        lookedAt();
        clear();
        grow();
        shrink();
        merge();
        intersect();
        isSame();
        slotsAndEntries();
        distinctAndTotal();
        fingerprintAt();
        slotsRoundTheEnd();
        slotsOfNeighbours();
        slotsWrong();
        CHECKS.end();
    }

    private static void due(String what, Object want, Checks.Call call) {
        CHECKS.due(what, want, call);
    }

    private static void throwsFor(String what, String want, int[] numbers, Of call) {
        for (int number : numbers) {
            due(what + " with " + number, want, () -> call.answer(number));
        }
    }

    /** What a call answers for the slots (or quotients) of a filter, one after the other. */
    private static void rowDue(String what, String want, int slots, Of call) {
        StringBuilder row = new StringBuilder();
        for (int slot = 0; slot < slots; slot++) {
            Object answer = call.answer(slot);
            row.append(slot == 0 ? "" : " ");
            row.append(answer instanceof Boolean ? ((Boolean) answer ? "1" : "0") : answer.toString());
        }
        CHECKS.due(what, want, row.toString());
    }

    /** The fingerprint of a quotient and a remainder in a filter of eight slots. */
    private static int of(int quotient, int remainder) {
        return quotient * 512 + remainder;
    }

    /** Filter 0 with a run of quotient 7 that goes over the end, and two behind it. */
    private static QuotientQuoin roundTheEnd() {
        QuotientQuoin x = new QuotientQuoin();
        x.add(0, of(1, 3), 1);
        x.add(0, of(7, 5), 15);
        x.add(0, of(0, 9), 1);
        x.add(0, of(7, 2), 1);
        return x;
    }

    /** Filter 0 with seven entries, as many as eight slots may hold. */
    private static QuotientQuoin full() {
        QuotientQuoin x = new QuotientQuoin();
        x.add(0, 100, 43);
        return x;
    }

    private static void constants() {
        CHECKS.due("NONE", -1, (Object) QuotientQuoin.NONE);
    }

    // ---- promise 1

    private static void newObject() {
        QuotientQuoin x = new QuotientQuoin();
        for (int filter = 0; filter < 4; filter++) {
            int f = filter;
            due("slots of a new filter", 8, () -> x.slots(f));
            due("entries of a new filter", 0, () -> x.entries(f));
            due("total of a new filter", 0, () -> x.total(f));
            due("distinct of a new filter", 0, () -> x.distinct(f));
            due("longestCluster of a new filter", 0, () -> x.longestCluster(f));
            due("fingerprintAt of a new filter", INDEX, () -> x.fingerprintAt(f, 0));
            rowDue("remainderAt, new", "-1 -1 -1 -1 -1 -1 -1 -1", 8, s -> x.remainderAt(f, s));
            rowDue("counterAt, new", "0 0 0 0 0 0 0 0", 8, s -> x.counterAt(f, s));
            rowDue("isOccupied, new", "0 0 0 0 0 0 0 0", 8, s -> x.isOccupied(f, s));
        }
        x.insert(1, 7);
        due("total of the filter put into", 1, () -> x.total(1));
        due("total of the filter before it", 0, () -> x.total(0));
        due("total of the filter after it", 0, () -> x.total(2));
        QuotientQuoin y = new QuotientQuoin();
        due("total in another object", 0, () -> y.total(1));
    }

    // ---- promise 2

    private static void fingerprint() {
        QuotientQuoin x = new QuotientQuoin();
        int[][] pairs = {{0, 0}, {1, 2531}, {2, 966}, {3, 3498}, {5, 369}, {7, 1336}, {-1, 1564}, {-7, 2759},
            {12345, 2578}, {GREATEST, 3612}, {LEAST, 2048}, {4181, 0}, {-39602, 2531}, {-193834, 4095}};
        for (int[] pair : pairs) {
            due("fingerprint of " + pair[0], pair[1], () -> x.fingerprint(pair[0]));
        }
    }

    // ---- promises 3, 4 and 5

    private static void insert() {
        QuotientQuoin x = new QuotientQuoin();
        due("insert once", 1, () -> x.insert(2, 1));
        due("insert again", 2, () -> x.insert(2, 1));
        due("insert a key of the same fingerprint", 3, () -> x.insert(2, -39602));
        due("insert another key", 1, () -> x.insert(2, 2));
        due("the count by the other key", 3, () -> x.count(2, -39602));
        due("the count by fingerprint", 3, () -> x.countOf(2, 2531));
        for (int i = 4; i <= 42; i++) {
            int want = i;
            due("insert up to seven entries", want, () -> x.insert(2, 1));
        }
        due("entries", 7, () -> x.entries(2));
        due("insert an eighth entry of the same", STATE, () -> x.insert(2, 1));
        due("insert an eighth entry of another", STATE, () -> x.insert(2, 3));
        due("the count after that", 42, () -> x.count(2, 1));
        due("distinct after that", 2, () -> x.distinct(2));
        due("insert with no new entry", 2, () -> x.insert(2, 2));
        throwsFor("insert", INDEX, NO_FILTERS, f -> x.insert(f, 1));
    }

    private static void remove() {
        QuotientQuoin x = new QuotientQuoin();
        due("remove from an empty filter", false, () -> x.remove(0, 1));
        x.insert(0, 1);
        x.insert(0, 1);
        due("remove a key that is not there", false, () -> x.remove(0, 2));
        due("remove from another filter", false, () -> x.remove(1, 1));
        due("remove the first", true, () -> x.remove(0, 1));
        due("count between", 1, () -> x.count(0, 1));
        due("remove the last by the other key", true, () -> x.remove(0, -39602));
        due("remove none", false, () -> x.remove(0, 1));
        due("entries at the end", 0, () -> x.entries(0));
        throwsFor("remove", INDEX, NO_FILTERS, f -> x.remove(f, 1));
        QuotientQuoin y = full();
        y.insert(1, 1);
        y.add(1, 2531, 7);
        due("entries of eight", 2, () -> y.entries(1));
        due("remove from eight", true, () -> y.remove(1, 1));
        due("entries of seven", 1, () -> y.entries(1));
    }

    private static void count() {
        QuotientQuoin x = new QuotientQuoin();
        due("count of none", 0, () -> x.count(3, 1));
        x.add(3, 2531, 40);
        due("count of 40", 40, () -> x.count(3, 1));
        due("count by the other key", 40, () -> x.count(3, -39602));
        due("count of another key", 0, () -> x.count(3, 2));
        due("count in another filter", 0, () -> x.count(0, 1));
        throwsFor("count", INDEX, NO_FILTERS, f -> x.count(f, 1));
    }

    // ---- promises 6 and 7

    private static void add() {
        QuotientQuoin x = new QuotientQuoin();
        due("add 49", 49, () -> x.add(0, 0, 49));
        due("add 50 to an empty filter", STATE, () -> x.add(1, 0, 50));
        due("total after that", 0, () -> x.total(1));
        due("add 100 to eight slots", STATE, () -> x.add(1, 0, 100));
        x.grow(1);
        due("add 98, all of sixteen slots", 98, () -> x.add(1, 4095, 98));
        due("add one more", STATE, () -> x.add(1, 4095, 1));
        due("the count after that", 98, () -> x.countOf(1, 4095));
        x.grow(1);
        due("add 98, all of 32 slots", 196, () -> x.add(1, 4095, 98));
        due("add one more again", STATE, () -> x.add(1, 4095, 1));
        x.take(1, 4095, 100);
        due("add 100", 196, () -> x.add(1, 4095, 100));
        x.take(1, 4095, 7);
        due("add 1 to the least", 1, () -> x.add(1, 0, 1));
        throwsFor("add filter", INDEX, NO_FILTERS, f -> x.add(f, 0, 1));
        throwsFor("add fingerprint", ARGUMENT, new int[] {-1, 4096, LEAST, GREATEST}, p -> x.add(1, p, 1));
        throwsFor("add times", ARGUMENT, new int[] {0, -1, 101, LEAST, GREATEST}, t -> x.add(1, 0, t));
        due("add: filter before fingerprint", INDEX, () -> x.add(4, -1, 0));
        due("add: fingerprint before state", ARGUMENT, () -> x.add(0, 4096, 100));
        due("add: times before state", ARGUMENT, () -> x.add(0, 0, 101));
        due("add to a full filter", STATE, () -> x.add(0, 0, 1));
        due("total at the end", 49, () -> x.total(0));
    }

    private static void take() {
        QuotientQuoin x = new QuotientQuoin();
        due("take from an empty filter", 0, () -> x.take(0, 9, 100));
        x.add(0, 9, 20);
        x.add(0, 10, 1);
        due("take fewer", 5, () -> x.take(0, 9, 5));
        due("the count then", 15, () -> x.countOf(0, 9));
        due("entries then", 4, () -> x.entries(0));
        due("take one that is not there", 0, () -> x.take(0, 8, 1));
        due("take to seven", 8, () -> x.take(0, 9, 8));
        due("entries of seven and one", 2, () -> x.entries(0));
        due("take more than there are", 7, () -> x.take(0, 9, 100));
        due("the other one stays", 1, () -> x.countOf(0, 10));
        due("take just all", 1, () -> x.take(0, 10, 1));
        due("entries at the end", 0, () -> x.entries(0));
        throwsFor("take filter", INDEX, NO_FILTERS, f -> x.take(f, 0, 1));
        throwsFor("take fingerprint", ARGUMENT, new int[] {-1, 4096, LEAST, GREATEST}, p -> x.take(0, p, 1));
        throwsFor("take times", ARGUMENT, new int[] {0, -1, 101, LEAST, GREATEST}, t -> x.take(0, 0, t));
        due("take: filter first", INDEX, () -> x.take(-1, 4096, 0));
    }

    // ---- promises 8 and 9

    private static void countsFound() {
        QuotientQuoin x = roundTheEnd();
        int[][] pairs = {{of(7, 5), 15}, {of(7, 2), 1}, {of(0, 9), 1}, {of(1, 3), 1}, {of(7, 0), 0}, {of(7, 3), 0},
            {of(7, 511), 0}, {of(0, 0), 0}, {of(0, 5), 0}, {of(1, 9), 0}, {of(2, 3), 0}, {of(5, 5), 0}};
        for (int[] pair : pairs) {
            due("countOf " + pair[0], pair[1], () -> x.countOf(0, pair[0]));
            due("countInLists " + pair[0], pair[1], () -> x.countInLists(0, pair[0]));
            due("countOf in an empty filter", 0, () -> x.countOf(1, pair[0]));
            due("countInLists in an empty filter", 0, () -> x.countInLists(1, pair[0]));
        }
        throwsFor("countOf filter", INDEX, NO_FILTERS, f -> x.countOf(f, 0));
        throwsFor("countInLists filter", INDEX, NO_FILTERS, f -> x.countInLists(f, 0));
        int[] no = {-1, 4096, LEAST, GREATEST};
        throwsFor("countOf fingerprint", ARGUMENT, no, p -> x.countOf(0, p));
        throwsFor("countInLists fingerprint", ARGUMENT, no, p -> x.countInLists(0, p));
        due("countOf: filter first", INDEX, () -> x.countOf(4, -1));
        due("countInLists: filter first", INDEX, () -> x.countInLists(4, -1));
        QuotientQuoin y = full();
        due("countOf in a full filter", 43, () -> y.countOf(0, 100));
        due("countInLists in a full filter", 43, () -> y.countInLists(0, 100));
    }

    // ---- promise 10

    private static void lookedAt() {
        QuotientQuoin x = roundTheEnd();
        due("lookedAt below the first", 1, () -> x.lookedAt(0, of(7, 0)));
        due("lookedAt the first", 1, () -> x.lookedAt(0, of(7, 2)));
        due("lookedAt between", 2, () -> x.lookedAt(0, of(7, 3)));
        due("lookedAt the second of four entries", 2, () -> x.lookedAt(0, of(7, 5)));
        due("lookedAt beyond the end of the run", 4, () -> x.lookedAt(0, of(7, 6)));
        due("lookedAt a run behind", 1, () -> x.lookedAt(0, of(0, 10)));
        due("lookedAt without a run", 0, () -> x.lookedAt(0, of(2, 1)));
        due("lookedAt without a run, in a taken slot", 0, () -> x.lookedAt(0, of(3, 9)));
        due("lookedAt an empty filter", 0, () -> x.lookedAt(1, 0));
        throwsFor("lookedAt filter", INDEX, NO_FILTERS, f -> x.lookedAt(f, 0));
        throwsFor("lookedAt fingerprint", ARGUMENT, new int[] {-1, 4096, LEAST, GREATEST}, p -> x.lookedAt(0, p));
        due("lookedAt: filter first", INDEX, () -> x.lookedAt(4, 4096));
    }

    // ---- promise 11

    private static void clear() {
        QuotientQuoin x = roundTheEnd();
        x.grow(0);
        x.add(1, 5, 5);
        x.clear(0);
        due("slots after clear", 16, () -> x.slots(0));
        due("entries after clear", 0, () -> x.entries(0));
        due("total after clear", 0, () -> x.total(0));
        rowDue("counterAt after clear", "0 0 0 0 0 0 0 0 0 0 0 0 0 0 0 0", 16, s -> x.counterAt(0, s));
        rowDue("isOccupied after clear", "0 0 0 0 0 0 0 0 0 0 0 0 0 0 0 0", 16, s -> x.isOccupied(0, s));
        rowDue("isShifted after clear", "0 0 0 0 0 0 0 0 0 0 0 0 0 0 0 0", 16, s -> x.isShifted(0, s));
        rowDue("isContinuation after clear", "0 0 0 0 0 0 0 0 0 0 0 0 0 0 0 0", 16, s -> x.isContinuation(0, s));
        due("the other filter", 5, () -> x.total(1));
        throwsFor("clear", INDEX, NO_FILTERS, f -> {
            x.clear(f);
            return "nothing";
        });
    }

    // ---- promises 12 and 13

    private static void grow() {
        QuotientQuoin x = roundTheEnd();
        due("grow", 16, () -> x.grow(0));
        // 3589 has now the quotient 14, 3586 too, 9 the quotient 0, 515 the quotient 2.
        rowDue("quotientAt after grow", "14 14 0 2 -1 -1 -1 -1 -1 -1 -1 -1 -1 -1 14 14", 16, s -> x.quotientAt(0, s));
        rowDue("remainderAt after grow", "5 5 9 3 -1 -1 -1 -1 -1 -1 -1 -1 -1 -1 2 5", 16, s -> x.remainderAt(0, s));
        due("the count after grow", 15, () -> x.countOf(0, of(7, 5)));
        due("total after grow", 18, () -> x.total(0));
        for (int slots = 32; slots <= 256; slots *= 2) {
            int want = slots;
            due("grow again", want, () -> x.grow(0));
        }
        due("grow beyond the most", STATE, () -> x.grow(0));
        due("slots after that", 256, () -> x.slots(0));
        due("the count at the most", 15, () -> x.countOf(0, of(7, 5)));
        due("quotient at the most", 224, () -> x.quotientAt(0, 224));
        due("entries at the most", 6, () -> x.entries(0));
        due("slots of another filter", 8, () -> x.slots(1));
        throwsFor("grow", INDEX, NO_FILTERS, f -> x.grow(f));
    }

    private static void shrink() {
        QuotientQuoin x = roundTheEnd();
        due("shrink below the least", STATE, () -> x.shrink(0));
        due("shrink below the least, empty", STATE, () -> x.shrink(1));
        due("slots after that", 8, () -> x.slots(1));
        x.grow(0);
        x.grow(0);
        due("shrink", 16, () -> x.shrink(0));
        due("shrink again", 8, () -> x.shrink(0));
        rowDue("remainderAt after shrink", "5 5 5 9 3 -1 -1 2", 8, s -> x.remainderAt(0, s));
        x.grow(0);
        x.add(0, 2000, 7);
        due("shrink with seven entries", 8, () -> x.shrink(0));
        x.grow(0);
        x.add(0, 2000, 1);
        due("shrink with eight entries", STATE, () -> x.shrink(0));
        due("slots after that", 16, () -> x.slots(0));
        due("total after that", 26, () -> x.total(0));
        throwsFor("shrink", INDEX, NO_FILTERS, f -> x.shrink(f));
    }

    // ---- promise 14

    private static void merge() {
        QuotientQuoin x = new QuotientQuoin();
        x.add(0, 5, 6);
        x.add(0, 4000, 2);
        x.grow(1);
        x.add(1, 5, 3);
        x.add(1, 4, 1);
        x.add(1, 4095, 1);
        due("merge", 5, () -> x.merge(0, 1));
        due("the sum of counts", 9, () -> x.countOf(0, 5));
        due("a count of the other one", 1, () -> x.countOf(0, 4));
        due("a count of its own", 2, () -> x.countOf(0, 4000));
        due("the greatest", 1, () -> x.countOf(0, 4095));
        due("slots stay", 8, () -> x.slots(0));
        due("the other filter's count stays", 3, () -> x.countOf(1, 5));
        due("the other filter's total stays", 5, () -> x.total(1));
        due("the other filter's slots stay", 16, () -> x.slots(1));
        due("merge with itself", 6, () -> x.merge(0, 0));
        due("counts are doubled", 18, () -> x.countOf(0, 5));
        due("total is doubled", 26, () -> x.total(0));
        due("merge with an empty filter", 6, () -> x.merge(0, 2));
        due("merge into an empty filter", 6, () -> x.merge(2, 0));
        due("they are the same then", true, () -> x.isSame(2, 0));
        x.add(1, 6, 8);
        due("merge too much", STATE, () -> x.merge(0, 1));
        due("total after that", 26, () -> x.total(0));
        due("the other filter's total after that", 13, () -> x.total(1));
        throwsFor("merge filter", INDEX, NO_FILTERS, f -> x.merge(f, 0));
        throwsFor("merge other", INDEX, NO_FILTERS, f -> x.merge(0, f));
        due("merge: index before state", INDEX, () -> full().merge(0, 4));
        mergeOfTheMost();
    }

    private static void mergeOfTheMost() {
        QuotientQuoin x = new QuotientQuoin();
        for (int i = 0; i < 5; i++) {
            x.grow(0);
            x.grow(1);
        }
        for (int i = 0; i < 224; i++) {
            x.add(0, 2 * i, 1);
            x.add(1, 4095 - 2 * i, 1);
        }
        due("entries of the most", 224, () -> x.entries(0));
        due("merge of two full filters", STATE, () -> x.merge(0, 1));
        due("merge of a full filter with itself", 224, () -> x.merge(0, 0));
        due("total of that", 448, () -> x.total(0));
        due("intersect of unlike filters", 0, () -> x.intersect(0, 1));
    }

    // ---- promise 15

    private static void intersect() {
        QuotientQuoin x = new QuotientQuoin();
        x.add(0, 5, 9);
        x.add(0, 6, 1);
        x.add(0, 4000, 2);
        x.add(0, 4095, 8);
        x.grow(1);
        x.add(1, 4, 1);
        x.add(1, 5, 3);
        x.add(1, 4000, 9);
        x.add(1, 4095, 8);
        due("intersect", 4, () -> x.intersect(0, 1));
        due("the other one's lesser count", 3, () -> x.countOf(0, 5));
        due("its own lesser count", 2, () -> x.countOf(0, 4000));
        due("the same count", 8, () -> x.countOf(0, 4095));
        due("none in the other one", 0, () -> x.countOf(0, 6));
        due("none of its own", 0, () -> x.countOf(0, 4));
        due("distinct", 3, () -> x.distinct(0));
        due("slots stay", 8, () -> x.slots(0));
        due("the other filter's total stays", 21, () -> x.total(1));
        due("the other filter's slots stay", 16, () -> x.slots(1));
        due("intersect with itself", 4, () -> x.intersect(0, 0));
        due("total of that", 13, () -> x.total(0));
        due("intersect with an empty filter", 0, () -> x.intersect(0, 2));
        due("intersect of an empty filter", 0, () -> x.intersect(0, 1));
        throwsFor("intersect filter", INDEX, NO_FILTERS, f -> x.intersect(f, 0));
        throwsFor("intersect other", INDEX, NO_FILTERS, f -> x.intersect(0, f));
    }

    // ---- promise 16

    private static void isSame() {
        QuotientQuoin x = new QuotientQuoin();
        due("two empty filters", true, () -> x.isSame(0, 1));
        x.grow(1);
        due("two empty filters of unlike size", true, () -> x.isSame(0, 1));
        x.add(0, 4000, 9);
        due("one is empty", false, () -> x.isSame(0, 1));
        due("the other one is empty", false, () -> x.isSame(1, 0));
        x.add(1, 4000, 8);
        due("another count", false, () -> x.isSame(0, 1));
        x.add(1, 4000, 1);
        due("the same count", true, () -> x.isSame(0, 1));
        x.add(0, 1, 1);
        x.add(1, 2, 1);
        due("other fingerprints", false, () -> x.isSame(0, 1));
        due("a filter and itself", true, () -> x.isSame(0, 0));
        throwsFor("isSame filter", INDEX, NO_FILTERS, f -> x.isSame(f, 0));
        throwsFor("isSame other", INDEX, NO_FILTERS, f -> x.isSame(0, f));
    }

    // ---- promises 17, 18, 19, 20 and 21

    private static void slotsAndEntries() {
        QuotientQuoin x = roundTheEnd();
        due("slots", 8, () -> x.slots(0));
        x.grow(3);
        due("slots of a grown filter", 16, () -> x.slots(3));
        throwsFor("slots", INDEX, NO_FILTERS, f -> x.slots(f));
        due("entries", 6, () -> x.entries(0));
        due("entries of an empty filter", 0, () -> x.entries(1));
        for (int count = 1; count <= 49; count++) {
            int want = (count + 6) / 7;
            x.add(1, 77, 1);
            due("entries of a count of " + count, want, () -> x.entries(1));
        }
        throwsFor("entries", INDEX, NO_FILTERS, f -> x.entries(f));
    }

    private static void distinctAndTotal() {
        QuotientQuoin x = roundTheEnd();
        due("distinct", 4, () -> x.distinct(0));
        due("distinct of an empty filter", 0, () -> x.distinct(1));
        due("distinct of one of many entries", 1, () -> full().distinct(0));
        throwsFor("distinct", INDEX, NO_FILTERS, f -> x.distinct(f));
        due("total", 18, () -> x.total(0));
        due("total of an empty filter", 0, () -> x.total(1));
        due("total of one of many entries", 43, () -> full().total(0));
        throwsFor("total", INDEX, NO_FILTERS, f -> x.total(f));
    }

    private static void fingerprintAt() {
        QuotientQuoin x = roundTheEnd();
        due("fingerprintAt 0", of(0, 9), () -> x.fingerprintAt(0, 0));
        due("fingerprintAt 1", of(1, 3), () -> x.fingerprintAt(0, 1));
        due("fingerprintAt 2", of(7, 2), () -> x.fingerprintAt(0, 2));
        due("fingerprintAt 3", of(7, 5), () -> x.fingerprintAt(0, 3));
        throwsFor("fingerprintAt place", INDEX, new int[] {4, 5, -1, LEAST, GREATEST}, i -> x.fingerprintAt(0, i));
        due("fingerprintAt in an empty filter", INDEX, () -> x.fingerprintAt(1, 0));
        throwsFor("fingerprintAt filter", INDEX, NO_FILTERS, f -> x.fingerprintAt(f, 0));
        x.add(2, 4095, 1);
        due("fingerprintAt: the greatest", 4095, () -> x.fingerprintAt(2, 0));
        x.add(2, 0, 1);
        due("fingerprintAt: the least", 0, () -> x.fingerprintAt(2, 0));
    }

    // ---- promises 22 to 31

    private static void slotsRoundTheEnd() {
        QuotientQuoin x = roundTheEnd();
        rowDue("remainderAt", "5 5 5 9 3 -1 -1 2", 8, s -> x.remainderAt(0, s));
        rowDue("counterAt", "7 7 1 1 1 0 0 1", 8, s -> x.counterAt(0, s));
        rowDue("quotientAt", "7 7 7 0 1 -1 -1 7", 8, s -> x.quotientAt(0, s));
        rowDue("isOccupied", "1 1 0 0 0 0 0 1", 8, s -> x.isOccupied(0, s));
        rowDue("isContinuation", "1 1 1 0 0 0 0 0", 8, s -> x.isContinuation(0, s));
        rowDue("isShifted", "1 1 1 1 1 0 0 0", 8, s -> x.isShifted(0, s));
        rowDue("runStart", "3 4 -1 -1 -1 -1 -1 7", 8, q -> x.runStart(0, q));
        rowDue("runLength", "1 1 0 0 0 0 0 4", 8, q -> x.runLength(0, q));
        rowDue("clusterStart", "7 7 7 7 7 -1 -1 7", 8, s -> x.clusterStart(0, s));
        due("longestCluster", 6, () -> x.longestCluster(0));
        due("longestCluster of an empty filter", 0, () -> x.longestCluster(1));
        // The last entry of a count that is a whole number of sevens is full too.
        x.add(0, of(7, 5), 6);
        rowDue("counterAt with 21", "7 7 7 1 1 0 0 1", 8, s -> x.counterAt(0, s));
        x.take(0, of(7, 5), 14);
        rowDue("counterAt with 7", "7 1 1 0 0 0 0 1", 8, s -> x.counterAt(0, s));
        rowDue("isShifted then", "1 1 1 0 0 0 0 0", 8, s -> x.isShifted(0, s));
        rowDue("quotientAt then", "7 0 1 -1 -1 -1 -1 7", 8, s -> x.quotientAt(0, s));
        due("entries then", 4, () -> x.entries(0));
    }

    private static void slotsOfNeighbours() {
        QuotientQuoin x = new QuotientQuoin();
        x.add(0, of(2, 1), 1);
        x.add(0, of(3, 0), 1);
        x.add(0, of(5, 511), 7);
        x.add(0, of(5, 0), 1);
        x.add(0, of(6, 4), 1);
        rowDue("remainderAt of neighbours", "-1 -1 1 0 -1 0 511 4", 8, s -> x.remainderAt(0, s));
        rowDue("isShifted of neighbours", "0 0 0 0 0 0 1 1", 8, s -> x.isShifted(0, s));
        rowDue("clusterStart of neighbours", "-1 -1 2 3 -1 5 5 5", 8, s -> x.clusterStart(0, s));
        due("longestCluster of neighbours", 3, () -> x.longestCluster(0));
    }

    private static void slotsWrong() {
        QuotientQuoin x = roundTheEnd();
        x.grow(1);
        int[] no = {-1, 8, 9, 256, LEAST, GREATEST};
        throwsFor("remainderAt slot", INDEX, no, s -> x.remainderAt(0, s));
        throwsFor("counterAt slot", INDEX, no, s -> x.counterAt(0, s));
        throwsFor("quotientAt slot", INDEX, no, s -> x.quotientAt(0, s));
        throwsFor("isOccupied slot", INDEX, no, s -> x.isOccupied(0, s));
        throwsFor("isContinuation slot", INDEX, no, s -> x.isContinuation(0, s));
        throwsFor("isShifted slot", INDEX, no, s -> x.isShifted(0, s));
        throwsFor("runStart quotient", INDEX, no, q -> x.runStart(0, q));
        throwsFor("runLength quotient", INDEX, no, q -> x.runLength(0, q));
        throwsFor("clusterStart slot", INDEX, no, s -> x.clusterStart(0, s));
        throwsFor("remainderAt filter", INDEX, NO_FILTERS, f -> x.remainderAt(f, 0));
        throwsFor("counterAt filter", INDEX, NO_FILTERS, f -> x.counterAt(f, 0));
        throwsFor("quotientAt filter", INDEX, NO_FILTERS, f -> x.quotientAt(f, 0));
        throwsFor("isOccupied filter", INDEX, NO_FILTERS, f -> x.isOccupied(f, 0));
        throwsFor("isContinuation filter", INDEX, NO_FILTERS, f -> x.isContinuation(f, 0));
        throwsFor("isShifted filter", INDEX, NO_FILTERS, f -> x.isShifted(f, 0));
        throwsFor("runStart filter", INDEX, NO_FILTERS, f -> x.runStart(f, 0));
        throwsFor("runLength filter", INDEX, NO_FILTERS, f -> x.runLength(f, 0));
        throwsFor("clusterStart filter", INDEX, NO_FILTERS, f -> x.clusterStart(f, 0));
        throwsFor("longestCluster filter", INDEX, NO_FILTERS, f -> x.longestCluster(f));
        due("the last slot of a grown filter", 0, () -> x.counterAt(1, 15));
        due("beyond the last slot of it", INDEX, () -> x.counterAt(1, 16));
    }
}
