/** Promise 3: tie. */
public final class TieTest {
    private static final int[] BAD_TIES = {-1, 16, 17, 32, Integer.MIN_VALUE, Integer.MAX_VALUE};
    private static final int[] BAD_PLACES = {-1, 9, 10, 16, Integer.MIN_VALUE, Integer.MAX_VALUE};
    private static final int[] BAD_COSTS = {-1, 101, 256, Integer.MIN_VALUE, Integer.MAX_VALUE};

    public static void main(String[] args) {
        Check check = new Check();
        costsHaveADirection(check);
        everyTieCounts(check);
        tiesOfTheSamePlacesAdd(check);
        tieIsReplacedWhole(check);
        eachPartIsReplacedAlone(check);
        everyTieIsReplaced(check);
        refusedReplacementKeepsTheTie(check);
        edgesAreTaken(check);
        everyCostFromZeroToHundredIsKept(check);
        wrongInputsChangeNothing(check);
        wrongInputsMakeNoTie(check);
        check.done();
    }

    private static void costsHaveADirection(Check check) {
        CutLabels x = new CutLabels();
        check.due("tie(0, 2, 5, 7, 9)", x.tie(0, 2, 5, 7, 9), 0);
        check.due("neither has label 1", x.energy(0), 0);
        check.due("i has label 0 and j label 1", x.energy(1 << 5), 7);
        check.due("i has label 1 and j label 0", x.energy(1 << 2), 9);
        check.due("both have label 1", x.energy(1 << 2 | 1 << 5), 0);
        x.tie(0, 5, 2, 7, 9);
        check.due("the other way round, i 0 and j 1", x.energy(1 << 2), 7);
        check.due("the other way round, i 1 and j 0", x.energy(1 << 5), 9);
    }

    private static void everyTieCounts(Check check) {
        CutLabels x = new CutLabels();
        int sum = 0;
        for (int tie = 0; tie < 16; tie++) {
            check.due("tie " + tie, x.tie(tie, 8, tie % 8, 1, 2 * tie + 3), 0);
            sum += 2 * tie + 3;
            check.due("energy(256) with ties up to " + tie, x.energy(256), sum);
            check.due("energy(255) with ties up to " + tie, x.energy(255), tie + 1);
        }
    }

    private static void tiesOfTheSamePlacesAdd(Check check) {
        CutLabels x = new CutLabels();
        x.tie(1, 0, 1, 10, 20);
        x.tie(2, 0, 1, 1, 2);
        x.tie(3, 1, 0, 30, 40);
        check.due("energy(1)", x.energy(1), 20 + 2 + 30);
        check.due("energy(2)", x.energy(2), 10 + 1 + 40);
    }

    private static void tieIsReplacedWhole(Check check) {
        CutLabels x = new CutLabels();
        x.tie(6, 0, 1, 10, 20);
        check.due("tie(6, 3, 2, 5, 0)", x.tie(6, 3, 2, 5, 0), 0);
        check.due("energy(1)", x.energy(1), 0);
        check.due("energy(2)", x.energy(2), 0);
        check.due("energy(4)", x.energy(4), 5);
        check.due("energy(8)", x.energy(8), 0);
        check.due("cut(6)", x.cut(6), 1);
        check.due("cut(6) again", x.cut(6), 0);
        check.same("energies with no tie", Check.energies(x), new int[46]);
    }

    private static void eachPartIsReplacedAlone(Check check) {
        CutLabels x = new CutLabels();
        x.tie(6, 0, 1, 10, 20);
        singles(check, x, "as it was first", 20, 10, 0);
        check.due("only i: tie(6, 2, 1, 10, 20)", x.tie(6, 2, 1, 10, 20), 0);
        singles(check, x, "after only i", 0, 10, 20);
        check.due("only j: tie(6, 2, 0, 10, 20)", x.tie(6, 2, 0, 10, 20), 0);
        singles(check, x, "after only j", 10, 0, 20);
        check.due("only u: tie(6, 2, 0, 0, 20)", x.tie(6, 2, 0, 0, 20), 0);
        singles(check, x, "after only u", 0, 0, 20);
        check.due("only v: tie(6, 2, 0, 0, 100)", x.tie(6, 2, 0, 0, 100), 0);
        singles(check, x, "after only v", 0, 0, 100);
        check.due("i and j changed over: tie(6, 0, 2, 0, 100)", x.tie(6, 0, 2, 0, 100), 0);
        singles(check, x, "after the change over", 100, 0, 0);
        check.due("nothing: tie(6, 0, 2, 0, 100)", x.tie(6, 0, 2, 0, 100), 0);
        singles(check, x, "after the same again", 100, 0, 0);
        check.due("cut(6)", x.cut(6), 1);
        check.due("cut(6): it was one tie all along", x.cut(6), 0);
        singles(check, x, "after the cut", 0, 0, 0);
    }

    private static void singles(Check check, CutLabels x, String when, int first, int second, int third) {
        check.due("energy(1) " + when, x.energy(1), first);
        check.due("energy(2) " + when, x.energy(2), second);
        check.due("energy(4) " + when, x.energy(4), third);
    }

    private static void everyTieIsReplaced(Check check) {
        CutLabels x = new CutLabels();
        for (int tie = 0; tie < 16; tie++) {
            x.tie(tie, 0, 1, 100, 100);
        }
        for (int tie = 0; tie < 16; tie++) {
            check.due("tie(" + tie + ", 7, 8, 1, 2)", x.tie(tie, 7, 8, 1, 2), 0);
            check.due("energy(1) with ties up to " + tie + " replaced", x.energy(1), 1500 - 100 * tie);
            check.due("energy(128) with ties up to " + tie + " replaced", x.energy(128), 2 * tie + 2);
        }
    }

    private static void refusedReplacementKeepsTheTie(Check check) {
        for (int tie = 0; tie < 16; tie++) {
            CutLabels x = new CutLabels();
            x.tie(tie, 0, 1, 10, 20);
            check.due("i = j for tie " + tie, x.tie(tie, 2, 2, 1, 1), -1);
            check.due("i = j where i was for tie " + tie, x.tie(tie, 0, 0, 1, 1), -1);
            check.due("u 101 for tie " + tie, x.tie(tie, 1, 2, 101, 1), -1);
            check.due("v -1 for tie " + tie, x.tie(tie, 1, 2, 1, -1), -1);
            check.due("j 9 for tie " + tie, x.tie(tie, 2, 9, 1, 1), -1);
            check.due("i -1 for tie " + tie, x.tie(tie, -1, 2, 1, 1), -1);
            singles(check, x, "after refused calls for tie " + tie, 20, 10, 0);
            check.due("cut(" + tie + ")", x.cut(tie), 1);
        }
    }

    private static void everyCostFromZeroToHundredIsKept(Check check) {
        for (int tie = 0; tie < 16; tie++) {
            CutLabels x = new CutLabels();
            for (int cost = 0; cost <= 100; cost++) {
                check.due("tie(" + tie + ", 0, 8, " + cost + ", less)", x.tie(tie, 0, 8, cost, 100 - cost), 0);
                check.due("then energy(256)", x.energy(256), cost);
                check.due("then energy(1)", x.energy(1), 100 - cost);
                check.due("then energy(257)", x.energy(257), 0);
            }
        }
    }

    private static void edgesAreTaken(Check check) {
        CutLabels x = new CutLabels();
        check.due("tie(0, 0, 8, 100, 0)", x.tie(0, 0, 8, 100, 0), 0);
        check.due("tie(15, 8, 0, 100, 0)", x.tie(15, 8, 0, 100, 0), 0);
        check.due("energy(256)", x.energy(256), 100);
        check.due("energy(1)", x.energy(1), 100);
        check.due("tie(15, 8, 0, 0, 100)", x.tie(15, 8, 0, 0, 100), 0);
        check.due("energy(256)", x.energy(256), 200);
        check.due("energy(1)", x.energy(1), 0);
        check.due("tie(7, 3, 4, 0, 0)", x.tie(7, 3, 4, 0, 0), 0);
        check.due("a tie without costs is there: cut(7)", x.cut(7), 1);
    }

    private static void refusals(Check check, CutLabels x) {
        for (int tie : BAD_TIES) {
            check.due("tie(" + tie + ", 0, 1, 1, 1)", x.tie(tie, 0, 1, 1, 1), -1);
        }
        for (int place : BAD_PLACES) {
            check.due("tie(0, " + place + ", 1, 1, 1)", x.tie(0, place, 1, 1, 1), -1);
            check.due("tie(0, 1, " + place + ", 1, 1)", x.tie(0, 1, place, 1, 1), -1);
            check.due("tie(0, " + place + ", same, 1, 1)", x.tie(0, place, place, 1, 1), -1);
        }
        for (int place = 0; place < 9; place++) {
            check.due("tie(0, " + place + ", same, 1, 1)", x.tie(0, place, place, 1, 1), -1);
        }
        for (int bad : BAD_COSTS) {
            check.due("tie(0, 3, 4, " + bad + ", 1)", x.tie(0, 3, 4, bad, 1), -1);
            check.due("tie(0, 3, 4, 1, " + bad + ")", x.tie(0, 3, 4, 1, bad), -1);
        }
    }

    private static void wrongInputsChangeNothing(Check check) {
        CutLabels x = new CutLabels();
        x.tie(0, 6, 7, 30, 40);
        int[] before = Check.energies(x);
        refusals(check, x);
        check.same("energies after refused ties", Check.energies(x), before);
        check.due("cut(0)", x.cut(0), 1);
    }

    private static void wrongInputsMakeNoTie(Check check) {
        CutLabels x = new CutLabels();
        refusals(check, x);
        for (int tie = 0; tie < 16; tie++) {
            check.due("cut(" + tie + ") after refused ties", x.cut(tie), 0);
        }
    }
}
