/** Promise 7: upper. */
public final class UpperTest {
    public static void main(String[] args) {
        Check check = new Check();
        onlyPlacesThatLoseHaveLabelZero(check);
        tiesPullPlacesToLabelZero(check);
        balancedPlacesGoToOne(check);
        firstAndLastLabellingCount(check);
        check.done();
    }

    private static void onlyPlacesThatLoseHaveLabelZero(Check check) {
        for (int wanted = 0; wanted < 512; wanted++) {
            CutLabels x = new CutLabels();
            for (int place = 0; place < 9; place++) {
                x.cost(place, 7, (wanted >> place & 1) == 1 ? 7 : 8);
            }
            check.due("upper() for " + wanted, x.upper(), wanted);
        }
    }

    private static void tiesPullPlacesToLabelZero(Check check) {
        CutLabels x = new CutLabels();
        x.cost(0, 0, 100);
        for (int tie = 0; tie < 8; tie++) {
            check.due("upper() with ties below " + tie, x.upper(), 511 - ((2 << tie) - 1));
            x.tie(tie, tie, tie + 1, 1, 0);
        }
        check.due("upper() with the whole chain", x.upper(), 0);
        x.cut(4);
        check.due("upper() with the chain cut", x.upper(), 511 - 31);
        x.tie(4, 4, 5, 0, 1);
        check.due("upper() with a link that pulls the other way", x.upper(), 511 - 31);
    }

    private static void balancedPlacesGoToOne(Check check) {
        CutLabels x = new CutLabels();
        x.cost(1, 5, 0);
        x.cost(2, 0, 5);
        x.tie(0, 1, 2, 9, 9);
        check.due("both alike cost 5 either way", x.upper(), 511);
        x.cost(2, 0, 6);
        check.due("label 0 for both is now cheaper", x.upper(), 511 - 6);
    }

    private static void firstAndLastLabellingCount(Check check) {
        CutLabels x = new CutLabels();
        for (int place = 0; place < 9; place++) {
            x.cost(place, 2, 1);
        }
        check.due("only 511 is best: upper()", x.upper(), 511);
        for (int place = 0; place < 9; place++) {
            x.cost(place, 3, 5);
        }
        check.due("only 0 is best: upper()", x.upper(), 0);
    }
}
