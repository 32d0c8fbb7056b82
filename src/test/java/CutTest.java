/** Promise 4: cut. */
public final class CutTest {
    private static final int[] BAD_TIES = {-1, 16, 17, 32, Integer.MIN_VALUE, Integer.MAX_VALUE};

    public static void main(String[] args) {
        Check check = new Check();
        onlyTheNamedTieGoes(check);
        tieCanComeBack(check);
        everyTieIsThereOnce(check);
        refusedTieIsNotThere(check);
        costsStay(check);
        wrongInputsChangeNothing(check);
        check.done();
    }

    private static void onlyTheNamedTieGoes(Check check) {
        CutLabels x = new CutLabels();
        for (int tie = 0; tie < 16; tie++) {
            x.tie(tie, 0, 1, 0, tie + 1);
        }
        int left = 136;
        for (int step = 0; step < 16; step++) {
            int tie = step * 7 % 16;
            check.due("cut(" + tie + ")", x.cut(tie), 1);
            left -= tie + 1;
            check.due("energy(1) after cut(" + tie + ")", x.energy(1), left);
            check.due("cut(" + tie + ") again", x.cut(tie), 0);
            check.due("energy(1) after cutting " + tie + " again", x.energy(1), left);
        }
    }

    private static void tieCanComeBack(Check check) {
        CutLabels x = new CutLabels();
        x.tie(5, 0, 1, 10, 20);
        x.cut(5);
        check.due("tie(5, 1, 2, 3, 4)", x.tie(5, 1, 2, 3, 4), 0);
        check.due("energy(1)", x.energy(1), 0);
        check.due("energy(2)", x.energy(2), 4);
        check.due("cut(5)", x.cut(5), 1);
        check.due("energy(2)", x.energy(2), 0);
    }

    private static void everyTieIsThereOnce(Check check) {
        for (int tie = 0; tie < 16; tie++) {
            CutLabels x = new CutLabels();
            x.tie(tie, 0, 8, 0, 0);
            x.tie(tie, 8, 0, 100, 100);
            for (int other = 0; other < 16; other++) {
                check.due("cut(" + other + ") with only " + tie + " there", x.cut(other), other == tie ? 1 : 0);
            }
            check.due("cut(" + tie + ") once more", x.cut(tie), 0);
            check.due("then energy(1)", x.energy(1), 0);
        }
    }

    private static void refusedTieIsNotThere(Check check) {
        for (int tie = 0; tie < 16; tie++) {
            CutLabels x = new CutLabels();
            x.tie(tie, 4, 5, 10, 20);
            x.cut(tie);
            check.due("tie(" + tie + ", 4, 4, 10, 20)", x.tie(tie, 4, 4, 10, 20), -1);
            check.due("tie(" + tie + ", 4, 5, 10, 101)", x.tie(tie, 4, 5, 10, 101), -1);
            check.due("energy(16) after the cut and refused ties", x.energy(16), 0);
            check.due("cut(" + tie + ") after the cut and refused ties", x.cut(tie), 0);
        }
    }

    private static void costsStay(Check check) {
        CutLabels x = new CutLabels();
        x.cost(0, 10, 20);
        x.tie(0, 0, 1, 100, 100);
        x.cut(0);
        check.due("energy(0) after the cut", x.energy(0), 10);
        check.due("energy(1) after the cut", x.energy(1), 20);
    }

    private static void wrongInputsChangeNothing(Check check) {
        CutLabels x = new CutLabels();
        x.cost(3, 4, 5);
        for (int tie = 0; tie < 16; tie++) {
            x.tie(tie, tie % 9, (tie + 4) % 9, tie, 2 * tie + 1);
        }
        int[] before = Check.energies(x);
        for (int tie : BAD_TIES) {
            check.due("cut(" + tie + ")", x.cut(tie), -1);
        }
        check.same("energies after refused cuts", Check.energies(x), before);
    }
}
