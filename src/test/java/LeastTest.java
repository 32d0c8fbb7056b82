/** Promise 5: least. */
public final class LeastTest {
    public static void main(String[] args) {
        Check check = new Check();
        withoutTiesEachPlaceTakesItsCheaperLabel(check);
        aTieIsPaidOnlyWhereItIsCheaper(check);
        greatestEnergy(check);
        firstAndLastLabellingCount(check);
        check.done();
    }

    private static void withoutTiesEachPlaceTakesItsCheaperLabel(Check check) {
        CutLabels x = new CutLabels();
        int want = 0;
        for (int place = 0; place < 9; place++) {
            int zero = (place * 37 + 5) % 101;
            int one = (place * 61 + 40) % 101;
            x.cost(place, zero, one);
            want += Math.min(zero, one);
            check.due("least() with costs up to " + place, x.least(), want);
        }
    }

    private static void aTieIsPaidOnlyWhereItIsCheaper(Check check) {
        CutLabels x = new CutLabels();
        x.cost(0, 0, 30);
        x.cost(8, 20, 0);
        x.tie(0, 0, 8, 10, 99);
        check.due("the tie is cheapest", x.least(), 10);
        x.tie(0, 0, 8, 25, 99);
        check.due("label 0 for both is cheapest", x.least(), 20);
        x.cost(0, 0, 15);
        check.due("label 1 for both is cheapest", x.least(), 15);
        x.cut(0);
        check.due("no tie to pay", x.least(), 0);
    }

    private static void greatestEnergy(Check check) {
        CutLabels x = new CutLabels();
        for (int place = 0; place < 9; place++) {
            x.cost(place, 100, 100);
        }
        for (int tie = 0; tie < 16; tie++) {
            x.tie(tie, tie % 2, 2 + tie % 7, 100, 100);
        }
        check.due("least() of the greatest costs", x.least(), 900);
        check.due("energy(3) of the greatest costs", x.energy(3), 2500);
    }

    private static void firstAndLastLabellingCount(Check check) {
        CutLabels x = new CutLabels();
        for (int place = 0; place < 9; place++) {
            x.cost(place, 2, 1);
        }
        check.due("only 511 is best: least()", x.least(), 9);
        for (int place = 0; place < 9; place++) {
            x.cost(place, 3, 5);
        }
        check.due("only 0 is best: least()", x.least(), 27);
    }
}
