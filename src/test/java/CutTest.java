/** Promise 4: cut. */
public final class CutTest {
    private static final int[] BAD_TIES = {-1, 16, 17, 32, Integer.MIN_VALUE, Integer.MAX_VALUE};

    public static void main(String[] args) {
        Check check = new Check();
        onlyTheNamedTieGoes(check);
        tieCanComeBack(check);
        wrongInputsChangeNothing(check);
        check.done();
    }

    private static void onlyTheNamedTieGoes(Check check) {
        CutLabels x = new CutLabels();
        for (int tie = 0; tie < 16; tie++) {
            x.tie(tie, 0, 1, 0, tie + 1);
        }
        int left = 136;
        for (int step = 0; step < 16; step++) {
            int tie = step * 7 % 16;
            check.due("cut(" + tie + ")", x.cut(tie), 1);
            left -= tie + 1;
            check.due("energy(1) after cut(" + tie + ")", x.energy(1), left);
            check.due("cut(" + tie + ") again", x.cut(tie), 0);
            check.due("energy(1) after cutting " + tie + " again", x.energy(1), left);
        }
    }

    private static void tieCanComeBack(Check check) {
        CutLabels x = new CutLabels();
        x.tie(5, 0, 1, 10, 20);
        x.cut(5);
        check.due("tie(5, 1, 2, 3, 4)", x.tie(5, 1, 2, 3, 4), 0);
        check.due("energy(1)", x.energy(1), 0);
        check.due("energy(2)", x.energy(2), 4);
        check.due("cut(5)", x.cut(5), 1);
        check.due("energy(2)", x.energy(2), 0);
    }

    private static void wrongInputsChangeNothing(Check check) {
        CutLabels x = new CutLabels();
        x.cost(3, 4, 5);
        for (int tie = 0; tie < 16; tie++) {
            x.tie(tie, tie % 9, (tie + 4) % 9, tie, 2 * tie + 1);
        }
        int[] before = Check.energies(x);
        for (int tie : BAD_TIES) {
            check.due("cut(" + tie + ")", x.cut(tie), -1);
        }
        check.same("energies after refused cuts", Check.energies(x), before);
    }
}
