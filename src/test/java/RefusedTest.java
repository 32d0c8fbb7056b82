import java.util.ArrayList;
import java.util.List;
import java.util.Map;
import java.util.function.Consumer;
import java.util.function.ToIntFunction;

/**
 * Terms: "A refused call answers -1 and changes nothing. Places and ties out of range are refused."
 * Each refused call is made on its own, and every answer after it held against the one before.
 */
public final class RefusedTest {
    private record Refusal(String text, ToIntFunction<Face> call) {
    }

    private static final List<String> STATES = List.of(
        "a new object", "all costs 100, all 16 ties of 100", "all set, all different", "half the ties");

    private final Check check = new Check();
    private final List<Refusal> refusals = new ArrayList<>();

    public static void main(String[] args) {
        RefusedTest test = new RefusedTest();
        test.costs();
        test.tiesOutOfRange();
        test.tiesOfWrongPlaces();
        test.tiesOfWrongCosts();
        test.cuts();
        test.withs();
        test.aparts();
        for (String state : STATES) {
            test.changeNothing(state, Makings.all().get(state));
        }
        test.check.done();
    }

    private void changeNothing(String state, Consumer<Face> making) {
        Map<String, Integer> before = Answers.of(Used::new, making);
        for (Refusal refusal : refusals) {
            String where = state + ", " + refusal.text();
            Map<String, Integer> after = Answers.of(Used::new, x -> {
                making.accept(x);
                check.due(where, refusal.call().applyAsInt(x), -1);
            });
            check.sameAnswers(where + ", then", after, before);
        }
    }

    private void cost(int place, int zero, int one) {
        refusals.add(new Refusal("cost(" + place + ", " + zero + ", " + one + ")", x -> x.cost(place, zero, one)));
    }

    private void tie(int tie, int i, int j, int u, int v) {
        String text = "tie(" + tie + ", " + i + ", " + j + ", " + u + ", " + v + ")";
        refusals.add(new Refusal(text, x -> x.tie(tie, i, j, u, v)));
    }

    private void with(int place, int label) {
        refusals.add(new Refusal("with(" + place + ", " + label + ")", x -> x.with(place, label)));
    }

    private void apart(int i, int j) {
        refusals.add(new Refusal("apart(" + i + ", " + j + ")", x -> x.apart(i, j)));
    }

    private void costs() {
        for (int place : Edges.outside(8)) {
            cost(place, 41, 43);
        }
        for (int bad : Edges.outside(100)) {
            cost(0, bad, 43);
            cost(8, 41, bad);
        }
        cost(4, -1, 101);
        cost(9, -1, 101);
    }

    private void tiesOutOfRange() {
        for (int tie : Edges.outside(15)) {
            tie(tie, 2, 7, 41, 43);
        }
    }

    private void tiesOfWrongPlaces() {
        for (int place : Edges.outside(8)) {
            tie(0, place, 7, 41, 43);
            tie(15, 2, place, 41, 43);
        }
        for (int place = 0; place < 9; place++) {
            tie(place, place, place, 41, 43);
        }
        tie(3, -1, -1, 41, 43);
        tie(3, 9, 9, 41, 43);
        tie(3, -1, 9, 41, 43);
    }

    private void tiesOfWrongCosts() {
        for (int bad : Edges.outside(100)) {
            tie(0, 2, 7, bad, 43);
            tie(15, 2, 7, 41, bad);
        }
        tie(7, 2, 5, -1, 101);
        tie(16, 9, 9, 101, -1);
    }

    private void cuts() {
        for (int tie : Edges.outside(15)) {
            refusals.add(new Refusal("cut(" + tie + ")", x -> x.cut(tie)));
        }
    }

    private void withs() {
        for (int place : Edges.outside(8)) {
            with(place, 0);
            with(place, 1);
        }
        with(-1, Integer.MIN_VALUE);
        with(9, Integer.MAX_VALUE);
    }

    private void aparts() {
        for (int place : Edges.outside(8)) {
            apart(place, 8);
            apart(0, place);
            apart(place, place);
        }
        for (int place = 0; place < 9; place++) {
            apart(place, place);
        }
        apart(-1, 9);
        apart(Integer.MIN_VALUE, Integer.MAX_VALUE);
    }
}
