import java.util.Random;

/** Runs of up to 512 calls with fixed seeds, each call compared with what Model answers. */
public final class ModelTest {
    private static final Checks CHECKS = new Checks("ModelTest");
    private static final int[] WRONG = {-1, Integer.MIN_VALUE, Integer.MAX_VALUE, 4, 8, 16, 256, 257, 4096, 0, 101};

    // What each argument of a call is: f filter, k key, p fingerprint, t times, s slot, i place.
    private static final String[] CHANGES = {
        "insert fk", "remove fk", "add fpt", "add fpt", "add fpt", "take fpt", "take fpt",
        "grow f", "shrink f", "merge ff", "intersect ff", "clear f"};
    private static final String[] LOOKS = {
        "fingerprint k", "count fk", "countOf fp", "countInLists fp", "lookedAt fp", "isSame ff",
        "slots f", "entries f", "distinct f", "total f", "fingerprintAt fi", "remainderAt fs",
        "counterAt fs", "quotientAt fs", "isOccupied fs", "isContinuation fs", "isShifted fs",
        "runStart fs", "runLength fs", "clusterStart fs", "longestCluster f"};
    private static final String[] SWEEPS = {
        "remainderAt fs", "counterAt fs", "quotientAt fs", "isOccupied fs", "isContinuation fs",
        "isShifted fs", "runStart fs", "runLength fs", "clusterStart fs", "fingerprintAt fi"};

    private final Random random;
    private final Model model = new Model();
    private final QuotientQuoin quoin = new QuotientQuoin();
    private final int middle;
    private final int width;
    private final int most;
    private final String name;

    private ModelTest(long seed) {
        random = new Random(seed);
        name = "seed " + seed;
        // Some runs keep to a few fingerprints, so that runs are long and go round the end.
        middle = random.nextInt(3) == 0 ? 0 : random.nextInt(4096);
        width = 1 << (2 + random.nextInt(11));
        most = new int[] {1, 3, 15, 100}[random.nextInt(4)];
    }

    public static void main(String[] args) {
        for (int seed = 0; seed < 600 && CHECKS.allDue(); seed++) {
            new ModelTest(seed).mixedRun();
        }
        for (int seed = 0; seed < 120 && CHECKS.allDue(); seed++) {
            for (String sweep : SWEEPS) {
                new ModelTest(seed).sweepRun(sweep);
            }
        }
        CHECKS.end();
    }

    private void mixedRun() {
        growSome();
        int changing = 1 + random.nextInt(9);
        for (int call = 8; call < 512; call++) {
            boolean change = random.nextInt(10) < changing;
            compareWithArguments(change ? pick(CHANGES) : pick(LOOKS));
        }
    }

    private void sweepRun(String sweep) {
        growSome();
        for (int call = 8; call < 250; call++) {
            compareWithArguments(random.nextInt(4) == 0 ? pick(CHANGES) : "add fpt");
        }
        int filter = model.slots(3) > model.slots(0) ? 3 : 0;
        for (int i = 0; i < model.slots(filter); i++) {
            compare(sweep, filter, i);
        }
    }

    private void growSome() {
        for (int i = random.nextInt(9); i > 0; i--) {
            compare("grow f", random.nextBoolean() ? 0 : random.nextInt(4));
        }
    }

    // Seldom the calls that empty a filter, so that others find it full.
    private String pick(String[] calls) {
        String call = calls[random.nextInt(calls.length)];
        boolean emptying = call.startsWith("clear") || call.startsWith("intersect");
        return emptying && random.nextInt(4) != 0 ? "add fpt" : call;
    }

    private void compareWithArguments(String call) {
        String kinds = call.substring(call.indexOf(' ') + 1);
        int[] arguments = new int[kinds.length()];
        for (int i = 0; i < arguments.length; i++) {
            boolean bad = random.nextInt(60) == 0;
            arguments[i] = bad ? WRONG[random.nextInt(WRONG.length)] : argument(kinds.charAt(i), arguments[0]);
        }
        compare(call, arguments);
    }

    private int argument(char kind, int filter) {
        boolean there = filter >= 0 && filter < 4;
        switch (kind) {
            case 'f': return random.nextInt(3) == 0 ? random.nextInt(4) : 0;
            case 'k': return random.nextInt(8) == 0 ? random.nextInt() : random.nextInt(width) - width / 2;
            case 'p': return (middle + random.nextInt(width)) & 4095;
            case 't': return 1 + random.nextInt(random.nextInt(5) == 0 ? 100 : most);
            case 's': return random.nextInt(there ? model.slots(filter) : 8);
            default: return random.nextInt(there ? model.distinct(filter) + 1 : 8);
        }
    }

    private void compare(String call, int... arguments) {
        Calls.Call made = new Calls.Call(call.substring(0, call.indexOf(' ')), arguments);
        CHECKS.due(name + ": " + made, Calls.answer(model, made), Calls.answer(quoin, made));
    }
}
