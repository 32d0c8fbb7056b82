/** Promise 6: lower. */
public final class LowerTest {
    public static void main(String[] args) {
        Check check = new Check();
        onlyPlacesThatGainHaveLabelOne(check);
        tiesPullPlacesToLabelOne(check);
        balancedPlacesStayAtZero(check);
        firstAndLastLabellingCount(check);
        check.done();
    }

    private static void onlyPlacesThatGainHaveLabelOne(Check check) {
        for (int wanted = 0; wanted < 512; wanted++) {
            CutLabels x = new CutLabels();
            for (int place = 0; place < 9; place++) {
                x.cost(place, (wanted >> place & 1) == 1 ? 8 : 7, 7);
            }
            check.due("lower() for " + wanted, x.lower(), wanted);
        }
    }

    private static void tiesPullPlacesToLabelOne(Check check) {
        CutLabels x = new CutLabels();
        x.cost(0, 100, 0);
        for (int tie = 0; tie < 8; tie++) {
            check.due("lower() with ties below " + tie, x.lower(), (2 << tie) - 1);
            x.tie(tie, tie, tie + 1, 0, 1);
        }
        check.due("lower() with the whole chain", x.lower(), 511);
        x.cut(4);
        check.due("lower() with the chain cut", x.lower(), 31);
        x.tie(4, 4, 5, 1, 0);
        check.due("lower() with a link that pulls the other way", x.lower(), 31);
    }

    private static void balancedPlacesStayAtZero(Check check) {
        CutLabels x = new CutLabels();
        x.cost(1, 5, 0);
        x.cost(2, 0, 5);
        x.tie(0, 1, 2, 9, 9);
        check.due("both alike cost 5 either way", x.lower(), 0);
        x.cost(1, 6, 0);
        check.due("label 1 for both is now cheaper", x.lower(), 6);
    }

    private static void firstAndLastLabellingCount(Check check) {
        CutLabels x = new CutLabels();
        for (int place = 0; place < 9; place++) {
            x.cost(place, 2, 1);
        }
        check.due("only 511 is best: lower()", x.lower(), 511);
        for (int place = 0; place < 9; place++) {
            x.cost(place, 3, 5);
        }
        check.due("only 0 is best: lower()", x.lower(), 0);
    }
}
