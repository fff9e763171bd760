import java.util.ArrayList;
import java.util.List;
import java.util.Set;

/**
 * A run of at most 512 calls on a new object, each with the answer that is due. Of a call that
 * is due to throw it is looked at, too, whether it leaves everything in all filters as it was.
 */
final class Run {
    static final String INDEX = "throws java.lang.IndexOutOfBoundsException";
    static final String ARGUMENT = "throws java.lang.IllegalArgumentException";
    static final String STATE = "throws java.lang.IllegalStateException";

    private static final int MOST_CALLS = 512;
    private static final Set<String> CHANGING = Set.of("insert", "remove", "add", "take", "clear",
            "grow", "shrink", "merge", "intersect");
    private static final String[] OF_FILTER = {"slots", "entries", "distinct", "total", "longestCluster"};
    private static final String[] OF_SLOT = {"remainderAt", "counterAt", "quotientAt", "isOccupied",
        "isContinuation", "isShifted", "runStart", "runLength", "clusterStart"};

    private final Checks checks;
    private final String what;
    private final List<Calls.Call> changes;
    private QuotientQuoin quoin = new QuotientQuoin();
    private int made = 0;
    private List<String> pictureNow = null;

    Run(Checks checks, String what) {
        this(checks, what, new ArrayList<>());
    }

    private Run(Checks checks, String what, List<Calls.Call> changes) {
        this.checks = checks;
        this.what = what;
        this.changes = changes;
    }

    // ---- calls

    Run due(Object want, String name, int... arguments) {
        Calls.Call call = new Calls.Call(name, arguments);
        checks.due(what + " [" + call + "]", want, make(call));
        return this;
    }

    /** A call that only leads to what is tested; it is not due to throw. */
    Run does(String name, int... arguments) {
        Calls.Call call = new Calls.Call(name, arguments);
        Object got = make(call);
        if (isThrown(got)) {
            checks.due(what + " [" + call + "]", "no exception", got);
        }
        return this;
    }

    Run refused(String want, String name, int... arguments) {
        if (pictureNow == null) {
            pictureNow = new Run(checks, what, changes).picture();
        }
        List<String> before = pictureNow;
        Calls.Call call = new Calls.Call(name, arguments);
        Run after = new Run(checks, what, new ArrayList<>(changes));
        after.changes.add(call);
        checks.due(what + " [" + call + "]", want, make(call));
        String same = what + " [" + call + " changes nothing]";
        checks.due(same, "all as before", (Object) firstUnlike(before, after.picture()));
        return this;
    }

    /** Refused with each of the numbers in the given place of the arguments. */
    Run refusedFor(int[] numbers, int place, String want, String name, int... arguments) {
        for (int number : numbers) {
            int[] changed = arguments.clone();
            changed[place] = number;
            refused(want, name, changed);
        }
        return this;
    }

    /** What a call answers for all slots (or quotients) of a filter, one after the other. */
    Run row(String want, String name, int filter) {
        StringBuilder row = new StringBuilder();
        int slots = numberOf("slots", filter);
        for (int slot = 0; slot < slots; slot++) {
            Object got = make(new Calls.Call(name, filter, slot));
            row.append(slot == 0 ? "" : " ");
            row.append(got instanceof Boolean ? ((Boolean) got ? "1" : "0") : got.toString());
        }
        checks.due(what + " [" + name + " " + filter + "]", want, (Object) row.toString());
        return this;
    }

    /** Goes on with another new object on which the changes so far have been made. */
    Run renewed() {
        return new Run(checks, what, changes).replayed();
    }

    // ---- what is often needed first

    Run grown(int filter, int bits) {
        for (int b = 3; b < bits; b++) {
            does("grow", filter);
        }
        return this;
    }

    /** As many entries as the filter may hold, all of them with the counter 7. */
    Run filled(int filter) {
        int left = numberOf("slots", filter) / 8 * 7 - numberOf("entries", filter);
        for (int i = 0; left > 0; i++) {
            int entries = Math.min(left, 14);
            does("add", filter, 4090 - 250 * i, 7 * entries);
            left -= entries;
        }
        return this;
    }

    // ---- how it is done

    private Object make(Calls.Call call) {
        made++;
        if (made > MOST_CALLS) {
            throw new IllegalStateException(what + ": the test makes too many calls on one object");
        }
        Object answer = Calls.answer(quoin, call);
        if (CHANGING.contains(call.name()) && !isThrown(answer)) {
            changes.add(call);
            pictureNow = null;
        }
        return answer;
    }

    private static boolean isThrown(Object answer) {
        return answer instanceof String && ((String) answer).startsWith("throws ");
    }

    // Not one of the counted calls, so that a row may be as long as the largest filter.
    private int numberOf(String name, int filter) {
        QuotientQuoin other = new Run(checks, what, changes).replayed().quoin;
        Object answer = Calls.answer(other, new Calls.Call(name, filter));
        return answer instanceof Integer ? (Integer) answer : 0;
    }

    private Run replayed() {
        quoin = new QuotientQuoin();
        made = 0;
        for (Calls.Call call : changes) {
            made++;
            Calls.answer(quoin, call);
        }
        return this;
    }

    // Everything that can be seen of all filters, each part on an object made for it if need be.
    private List<String> picture() {
        List<String> picture = new ArrayList<>();
        replayed();
        for (int filter = 0; filter < 4; filter++) {
            for (String name : OF_FILTER) {
                picture.add(seen(name, filter));
            }
            int slots = numberOf("slots", filter);
            for (int slot = 0; slot < slots; slot++) {
                for (String name : OF_SLOT) {
                    picture.add(seen(name, filter, slot));
                }
            }
            int distinct = numberOf("distinct", filter);
            for (int place = 0; place < distinct; place++) {
                picture.add(seen("fingerprintAt", filter, place));
            }
        }
        return picture;
    }

    private String seen(String name, int... arguments) {
        if (made >= MOST_CALLS) {
            replayed();
        }
        Calls.Call call = new Calls.Call(name, arguments);
        return call + " = " + make(call);
    }

    private static String firstUnlike(List<String> before, List<String> after) {
        for (int i = 0; i < before.size() && i < after.size(); i++) {
            if (!before.get(i).equals(after.get(i))) {
                return before.get(i) + ", then " + after.get(i);
            }
        }
        return before.size() == after.size() ? "all as before" : "another number of slots or fingerprints";
    }
}
