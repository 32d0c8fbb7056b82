/** Promise 9: apart. */
public final class ApartTest {
    private static final int[] BAD_PLACES = {-1, 9, 10, 16, 32, Integer.MIN_VALUE, Integer.MAX_VALUE};

    public static void main(String[] args) {
        Check check = new Check();
        theCheaperOfTheTwoChanges(check);
        tiesArePaidInTheCheaperDirection(check);
        samePlacesAreRefused(check);
        wrongPlacesAreRefused(check);
        allOthersKeepTheirBest(check);
        check.done();
    }

    private static void theCheaperOfTheTwoChanges(Check check) {
        CutLabels x = new CutLabels();
        for (int place = 0; place < 9; place++) {
            x.cost(place, 0, 10 + place * 5 % 9);
        }
        for (int i = 0; i < 9; i++) {
            for (int j = 0; j < 9; j++) {
                int want = i == j ? -1 : 10 + Math.min(i * 5 % 9, j * 5 % 9);
                check.due("apart(" + i + ", " + j + ")", x.apart(i, j), want);
            }
        }
    }

    private static void tiesArePaidInTheCheaperDirection(Check check) {
        CutLabels x = new CutLabels();
        x.tie(0, 2, 6, 40, 30);
        check.due("apart(2, 6)", x.apart(2, 6), 30);
        check.due("apart(6, 2)", x.apart(6, 2), 30);
        x.tie(0, 2, 6, 20, 30);
        check.due("apart(2, 6)", x.apart(2, 6), 20);
        check.due("apart(6, 2)", x.apart(6, 2), 20);
        x.tie(1, 2, 4, 7, 100);
        x.tie(2, 4, 6, 100, 5);
        check.due("apart(2, 6) past place 4", x.apart(2, 6), 20 + 7);
        check.due("least() is as it was", x.least(), 0);
    }

    private static void samePlacesAreRefused(Check check) {
        CutLabels x = new CutLabels();
        for (int place = 0; place < 9; place++) {
            check.due("apart(" + place + ", same)", x.apart(place, place), -1);
        }
    }

    private static void wrongPlacesAreRefused(Check check) {
        CutLabels x = new CutLabels();
        x.cost(0, 1, 2);
        x.tie(3, 0, 1, 5, 6);
        int[] before = Check.energies(x);
        for (int place : BAD_PLACES) {
            check.due("apart(0, " + place + ")", x.apart(0, place), -1);
            check.due("apart(" + place + ", 0)", x.apart(place, 0), -1);
            check.due("apart(" + place + ", same)", x.apart(place, place), -1);
        }
        x.apart(0, 1);
        check.same("energies after apart", Check.energies(x), before);
    }

    private static void allOthersKeepTheirBest(Check check) {
        CutLabels x = new CutLabels();
        for (int place = 0; place < 9; place++) {
            x.cost(place, 2, 1);
        }
        check.due("511 is best: apart(8, 0)", x.apart(8, 0), 10);
        for (int place = 0; place < 9; place++) {
            x.cost(place, 3, 5);
        }
        check.due("0 is best: apart(8, 0)", x.apart(8, 0), 29);
    }
}
