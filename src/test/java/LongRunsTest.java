import java.util.Random;

/** Promises 1 to 10 together: runs of 512 calls, each answer held against the flow model's. */
public final class LongRunsTest {
    private static final int RUNS = 60;
    private static final int CALLS = 512;

    private final Check check = new Check();
    private final Random random;
    private final int greatestCost;
    private CutLabels x = new CutLabels();
    private FlowModel model = new FlowModel();

    private LongRunsTest(int seed) {
        random = new Random(seed);
        // Small costs make many labellings best at once; large ones reach the document's bound.
        greatestCost = seed % 3 == 0 ? 2 : seed % 3 == 1 ? 12 : 100;
    }

    public static void main(String[] args) {
        for (int seed = 0; seed < RUNS; seed++) {
            LongRunsTest run = new LongRunsTest(seed);
            for (int call = 0; call < CALLS; call++) {
                run.call("run " + seed + ", call " + call + ": ");
            }
            run.check.done();
        }
    }

    private void call(String where) {
        int a = place();
        int b = place();
        int c = cost();
        int d = cost();
        int tie = odd() ? wild() : random.nextInt(16);
        int any = random.nextInt();
        switch (random.nextInt(11)) {
            case 0, 1 -> due(where + "cost", x.cost(a, c, d), model.cost(a, c, d));
            case 2, 3 -> due(where + "tie", x.tie(tie, a, b, c, d), model.tie(tie, a, b, c, d));
            case 4 -> due(where + "cut", x.cut(tie), model.cut(tie));
            case 5 -> due(where + "least", x.least(), model.least());
            case 6 -> due(where + "lower", x.lower(), model.lower());
            case 7 -> due(where + "upper", x.upper(), model.upper());
            case 8 -> due(where + "with", x.with(a, any), model.with(a, any));
            case 9 -> due(where + "apart", x.apart(a, b), model.apart(a, b));
            default -> due(where + "energy", x.energy(any), model.energy(any));
        }
    }

    private void due(String call, int got, int want) {
        check.due(call, got, want);
    }

    private boolean odd() {
        return random.nextInt(20) == 0;
    }

    private int wild() {
        int[] choices = {-1, 9, 16, 101, random.nextInt()};
        return choices[random.nextInt(choices.length)];
    }

    private int place() {
        return odd() ? wild() : random.nextInt(9);
    }

    private int cost() {
        return odd() ? wild() : random.nextInt(greatestCost + 1);
    }
}
