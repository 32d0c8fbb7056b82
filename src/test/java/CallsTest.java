import java.util.LinkedHashMap;
import java.util.Map;
import java.util.function.Consumer;
import java.util.function.ToIntFunction;

/** What it is: "An object is used for at most 512 calls after it has been made": the 512th still counts. */
public final class CallsTest {
    private static final int LAST = Used.MOST_CALLS;

    private final Check check = new Check();

    public static void main(String[] args) {
        CallsTest test = new CallsTest();
        for (Map.Entry<String, Consumer<Face>> filling : fillings().entrySet()) {
            test.everyKindOfLastCall(filling.getKey(), filling.getValue());
            test.lastChangeIsSeen(filling.getKey(), filling.getValue());
        }
        test.manyCostsThenEnergy();
        test.manyTiesThenCut();
        test.check.done();
    }

    /** Calls that, however often they are made, leave the object as it was. */
    private static Map<String, Consumer<Face>> fillings() {
        Map<String, Consumer<Face>> fillings = new LinkedHashMap<>();
        fillings.put("cost", x -> x.cost(0, 6, 1));
        fillings.put("tie", x -> x.tie(0, 0, 1, 3, 4));
        fillings.put("cut", x -> x.cut(9));
        fillings.put("least", Face::least);
        fillings.put("lower", Face::lower);
        fillings.put("upper", Face::upper);
        fillings.put("with", x -> x.with(8, 1));
        fillings.put("apart", x -> x.apart(0, 8));
        fillings.put("energy", x -> x.energy(511));
        fillings.put("refused cost", x -> x.cost(9, 1, 1));
        fillings.put("refused tie", x -> x.tie(16, 0, 1, 1, 1));
        fillings.put("refused cut", x -> x.cut(-1));
        return fillings;
    }

    private static Used filled(Consumer<Face> filling, int calls) {
        Used x = new Used();
        x.cost(0, 6, 1);
        x.tie(0, 0, 1, 3, 4);
        while (x.calls() < calls) {
            filling.accept(x);
        }
        return x;
    }

    private void everyKindOfLastCall(String filling, Consumer<Face> fill) {
        Map<String, ToIntFunction<Face>> lasts = new LinkedHashMap<>();
        int[] want = {0, 0, 1, 1, 3, 511, 6, 5, 5, -1};
        lasts.put("cost(8, 100, 100)", x -> x.cost(8, 100, 100));
        lasts.put("tie(15, 7, 8, 100, 100)", x -> x.tie(15, 7, 8, 100, 100));
        lasts.put("cut(0)", x -> x.cut(0));
        lasts.put("least()", Face::least);
        lasts.put("lower()", Face::lower);
        lasts.put("upper()", Face::upper);
        lasts.put("with(0, 0)", x -> x.with(0, 0));
        lasts.put("apart(0, 1)", x -> x.apart(0, 1));
        lasts.put("energy(1)", x -> x.energy(1));
        lasts.put("cost(-1, 0, 0)", x -> x.cost(-1, 0, 0));
        int n = 0;
        for (Map.Entry<String, ToIntFunction<Face>> last : lasts.entrySet()) {
            Used x = filled(fill, LAST - 1);
            check.due("after " + filling + ", call 512: " + last.getKey(), last.getValue().applyAsInt(x), want[n++]);
            check.due("calls made", x.calls(), LAST);
        }
    }

    private void lastChangeIsSeen(String filling, Consumer<Face> fill) {
        String where = "after " + filling + ", call 511 and 512: ";
        Used costed = filled(fill, LAST - 2);
        costed.cost(8, 100, 99);
        check.due(where + "cost, energy", costed.energy(256), 6 + 99);
        Used tied = filled(fill, LAST - 2);
        tied.tie(15, 7, 8, 98, 100);
        check.due(where + "tie, energy", tied.energy(256), 6 + 98);
        Used cut = filled(fill, LAST - 2);
        cut.cut(0);
        check.due(where + "cut, energy", cut.energy(1), 1);
    }

    private void manyCostsThenEnergy() {
        Used x = new Used();
        while (x.calls() < LAST - 1) {
            int n = x.calls();
            x.cost(n % 9, n % 101, (n + 50) % 101);
        }
        int want = 0;
        for (int n = LAST - 10; n < LAST - 1; n++) {
            want += (n + 50) % 101;
        }
        check.due("energy(511) after 511 costs", x.energy(511), want);
    }

    private void manyTiesThenCut() {
        Used x = new Used();
        while (x.calls() < LAST - 2) {
            int n = x.calls();
            x.tie(n % 16, 0, 1, n % 101, 0);
        }
        int want = 0;
        for (int n = LAST - 18; n < LAST - 2; n++) {
            want += n % 101;
        }
        check.due("energy(2) after 510 ties", x.energy(2), want);
        check.due("cut(15) after 510 ties", x.cut(15), 1);
    }
}
