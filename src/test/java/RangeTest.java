/**
 * Terms: "PLACES are 0 to 8", "TIES are numbered 0 to 15", costs "from 0 to 100", and ties that join
 * "two different places". For each argument of each call: what is inside the range is taken, all else
 * is refused. RefusedTest shows that what is refused changes nothing.
 */
public final class RangeTest {
    private static final int PAST_EVERY_RANGE = 700;

    private interface Call {
        int with(CutLabels x, int argument);
    }

    private final Check check = new Check();

    public static void main(String[] args) {
        RangeTest test = new RangeTest();
        test.placesAreZeroToEight();
        test.tiesAreZeroToFifteen();
        test.costsAreZeroToHundred();
        test.tiesJoinAnyTwoDifferentPlaces();
        test.apartTakesAnyTwoDifferentPlaces();
        test.check.done();
    }

    private void placesAreZeroToEight() {
        range("cost's place", 8, 0, (x, place) -> x.cost(place, 1, 1));
        range("tie's i", 8, 0, (x, place) -> x.tie(0, place, place == 8 ? 7 : 8, 1, 1));
        range("tie's j", 8, 0, (x, place) -> x.tie(0, place == 0 ? 1 : 0, place, 1, 1));
        range("with's place for label 0", 8, 0, (x, place) -> x.with(place, 0));
        range("with's place for label 1", 8, 0, (x, place) -> x.with(place, 1));
        range("apart's i", 8, 0, (x, place) -> x.apart(place, place == 8 ? 7 : 8));
        range("apart's j", 8, 0, (x, place) -> x.apart(place == 0 ? 1 : 0, place));
    }

    private void tiesAreZeroToFifteen() {
        range("tie's number", 15, 0, (x, tie) -> x.tie(tie, 0, 8, 1, 1));
        range("the number of a tie to cut", 15, 0, (x, tie) -> x.cut(tie));
        range("the number of a tie to cut, all there", 15, 1, (x, tie) -> {
            for (int other = 0; other < 16; other++) {
                x.tie(other, 0, 8, 1, 1);
            }
            return x.cut(tie);
        });
    }

    private void costsAreZeroToHundred() {
        for (int other : new int[] {0, 100}) {
            range("cost's zero beside " + other, 100, 0, (x, cost) -> x.cost(0, cost, other));
            range("cost's one beside " + other, 100, 0, (x, cost) -> x.cost(8, other, cost));
            range("tie's u beside " + other, 100, 0, (x, cost) -> x.tie(0, 0, 8, cost, other));
            range("tie's v beside " + other, 100, 0, (x, cost) -> x.tie(15, 0, 8, other, cost));
        }
    }

    private void range(String what, int greatest, int taken, Call call) {
        for (int argument = -PAST_EVERY_RANGE; argument <= PAST_EVERY_RANGE; argument++) {
            int want = argument >= 0 && argument <= greatest ? taken : -1;
            check.due(what + " " + argument, call.with(new CutLabels(), argument), want);
        }
        for (int argument : Edges.inside(greatest)) {
            check.due(what + " " + argument, call.with(new CutLabels(), argument), taken);
        }
        for (int argument : Edges.outside(greatest)) {
            check.due(what + " " + argument, call.with(new CutLabels(), argument), -1);
        }
    }

    private void tiesJoinAnyTwoDifferentPlaces() {
        for (int i = 0; i < 9; i++) {
            for (int j = 0; j < 9; j++) {
                CutLabels x = new CutLabels();
                check.due("tie(0, " + i + ", " + j + ", 3, 5)", x.tie(0, i, j, 3, 5), i == j ? -1 : 0);
                check.due("then energy with only " + i, x.energy(1 << i), i == j ? 0 : 5);
                check.due("then energy with only " + j, x.energy(1 << j), i == j ? 0 : 3);
            }
        }
    }

    private void apartTakesAnyTwoDifferentPlaces() {
        CutLabels x = new CutLabels();
        for (int place = 0; place < 9; place++) {
            x.cost(place, 1, 2);
        }
        for (int i = 0; i < 9; i++) {
            for (int j = 0; j < 9; j++) {
                check.due("apart(" + i + ", " + j + ")", x.apart(i, j), i == j ? -1 : 10);
            }
        }
    }
}
