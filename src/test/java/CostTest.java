/** Promise 2: cost. */
public final class CostTest {
    private static final int[] BAD_PLACES = {-1, 9, 10, 16, Integer.MIN_VALUE, Integer.MAX_VALUE};
    private static final int[] BAD_COSTS = {-1, 101, 256, Integer.MIN_VALUE, Integer.MAX_VALUE};

    public static void main(String[] args) {
        Check check = new Check();
        everyPlaceHasItsOwnCosts(check);
        costsAreReplaced(check);
        edgesAreTaken(check);
        everyCostFromZeroToHundredIsKept(check);
        oneWrongCostKeepsTheOtherOut(check);
        wrongInputsChangeNothing(check);
        check.done();
    }

    private static void everyPlaceHasItsOwnCosts(Check check) {
        CutLabels x = new CutLabels();
        int zeros = 0;
        for (int place = 0; place < 9; place++) {
            check.due("cost at " + place, x.cost(place, 3 * place + 1, 30 + place * place), 0);
            zeros += 3 * place + 1;
        }
        check.due("energy(0)", x.energy(0), zeros);
        for (int place = 0; place < 9; place++) {
            int want = zeros - (3 * place + 1) + 30 + place * place;
            check.due("energy with only " + place, x.energy(1 << place), want);
        }
    }

    private static void costsAreReplaced(Check check) {
        CutLabels x = new CutLabels();
        x.cost(4, 10, 20);
        check.due("cost(4, 3, 0)", x.cost(4, 3, 0), 0);
        check.due("energy(0)", x.energy(0), 3);
        check.due("energy(16)", x.energy(16), 0);
    }

    private static void edgesAreTaken(Check check) {
        CutLabels x = new CutLabels();
        check.due("cost(0, 100, 0)", x.cost(0, 100, 0), 0);
        check.due("cost(8, 0, 100)", x.cost(8, 0, 100), 0);
        check.due("energy(0)", x.energy(0), 100);
        check.due("energy(1)", x.energy(1), 0);
        check.due("energy(256)", x.energy(256), 200);
        check.due("energy(257)", x.energy(257), 100);
    }

    private static void everyCostFromZeroToHundredIsKept(Check check) {
        for (int place = 0; place < 9; place++) {
            CutLabels x = new CutLabels();
            for (int cost = 0; cost <= 100; cost++) {
                check.due("cost(" + place + ", " + cost + ", less)", x.cost(place, cost, 100 - cost), 0);
                check.due("then energy(0)", x.energy(0), cost);
                check.due("then energy with only " + place, x.energy(1 << place), 100 - cost);
            }
        }
    }

    private static void oneWrongCostKeepsTheOtherOut(Check check) {
        for (int place = 0; place < 9; place++) {
            CutLabels x = new CutLabels();
            x.cost(place, 30, 60);
            check.due("cost(" + place + ", 7, 101)", x.cost(place, 7, 101), -1);
            check.due("cost(" + place + ", 7, -1)", x.cost(place, 7, -1), -1);
            check.due("cost(" + place + ", 101, 7)", x.cost(place, 101, 7), -1);
            check.due("cost(" + place + ", -1, 7)", x.cost(place, -1, 7), -1);
            check.due("then energy(0)", x.energy(0), 30);
            check.due("then energy with only " + place, x.energy(1 << place), 60);
        }
    }

    private static void wrongInputsChangeNothing(Check check) {
        CutLabels x = new CutLabels();
        x.cost(0, 11, 12);
        x.cost(8, 13, 14);
        int[] before = Check.energies(x);
        for (int place : BAD_PLACES) {
            check.due("cost(" + place + ", 1, 1)", x.cost(place, 1, 1), -1);
        }
        for (int bad : BAD_COSTS) {
            check.due("cost(0, " + bad + ", 1)", x.cost(0, bad, 1), -1);
            check.due("cost(8, 1, " + bad + ")", x.cost(8, 1, bad), -1);
        }
        check.same("energies after refused costs", Check.energies(x), before);
    }
}
