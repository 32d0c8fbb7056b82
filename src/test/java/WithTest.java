/** Promise 8: with. */
public final class WithTest {
    private static final int[] BAD_PLACES = {-1, 9, 10, 16, 32, Integer.MIN_VALUE, Integer.MAX_VALUE};

    public static void main(String[] args) {
        Check check = new Check();
        otherPlacesStillTakeTheirBest(check);
        tiesPullTheOtherPlaces(check);
        onlyTheLowestBitOfTheLabelCounts(check);
        everyBitOfTheLabelButTheLowestIsLeftOut(check);
        wrongPlacesAreRefused(check);
        firstAndLastLabellingCount(check);
        check.done();
    }

    private static void otherPlacesStillTakeTheirBest(Check check) {
        CutLabels x = new CutLabels();
        for (int place = 0; place < 9; place++) {
            x.cost(place, 10 + place, 20 + 3 * place);
        }
        int least = 10 * 9 + 36;
        for (int place = 0; place < 9; place++) {
            check.due("with(" + place + ", 0)", x.with(place, 0), least);
            check.due("with(" + place + ", 1)", x.with(place, 1), least + 10 + 2 * place);
        }
    }

    private static void tiesPullTheOtherPlaces(Check check) {
        CutLabels x = new CutLabels();
        x.cost(0, 0, 4);
        x.cost(1, 0, 6);
        x.tie(0, 0, 1, 50, 9);
        check.due("with(0, 1): place 1 comes along", x.with(0, 1), 10);
        check.due("with(1, 1): place 0 comes along", x.with(1, 1), 10);
        x.tie(0, 0, 1, 3, 2);
        check.due("with(0, 1): place 1 stays", x.with(0, 1), 6);
        check.due("with(1, 1): place 0 stays", x.with(1, 1), 9);
        check.due("least() is as it was", x.least(), 0);
    }

    private static void onlyTheLowestBitOfTheLabelCounts(Check check) {
        CutLabels x = new CutLabels();
        x.cost(8, 3, 70);
        int[] evens = {0, 2, -2, 510, 512, Integer.MIN_VALUE, Integer.MAX_VALUE - 1};
        int[] odds = {1, 3, -1, 511, 513, Integer.MIN_VALUE + 1, Integer.MAX_VALUE};
        for (int label : evens) {
            check.due("with(8, " + label + ")", x.with(8, label), 3);
        }
        for (int label : odds) {
            check.due("with(8, " + label + ")", x.with(8, label), 70);
        }
    }

    private static void everyBitOfTheLabelButTheLowestIsLeftOut(Check check) {
        for (int place = 0; place < 9; place++) {
            CutLabels x = new CutLabels();
            x.cost(place, 3, 70);
            for (int bit = 1; bit < 32; bit++) {
                int high = 1 << bit;
                check.due("with(" + place + ", " + high + ")", x.with(place, high), 3);
                check.due("with(" + place + ", " + (high | 1) + ")", x.with(place, high | 1), 70);
                check.due("with(" + place + ", " + -high + ")", x.with(place, -high), 3);
                check.due("with(" + place + ", " + (-high | 1) + ")", x.with(place, -high | 1), 70);
            }
        }
    }

    private static void wrongPlacesAreRefused(Check check) {
        CutLabels x = new CutLabels();
        x.cost(0, 1, 2);
        int[] before = Check.energies(x);
        for (int place : BAD_PLACES) {
            check.due("with(" + place + ", 0)", x.with(place, 0), -1);
            check.due("with(" + place + ", 1)", x.with(place, 1), -1);
        }
        x.with(0, 1);
        check.same("energies after with", Check.energies(x), before);
    }

    private static void firstAndLastLabellingCount(Check check) {
        CutLabels x = new CutLabels();
        for (int place = 0; place < 9; place++) {
            x.cost(place, 2, 1);
        }
        check.due("only 511 is best: with(8, 1)", x.with(8, 1), 9);
        for (int place = 0; place < 9; place++) {
            x.cost(place, 3, 5);
        }
        check.due("only 0 is best: with(8, 0)", x.with(8, 0), 27);
    }
}
