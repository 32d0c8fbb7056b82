/** Promise 10: energy. */
public final class EnergyTest {
    public static void main(String[] args) {
        Check check = new Check();
        everyLabellingOfCostsAlone(check);
        costsAndTiesAdd(check);
        onlyTheNineLowestBitsCount(check);
        check.done();
    }

    private static void everyLabellingOfCostsAlone(Check check) {
        int[] ones = {1, 2, 4, 8, 16, 32, 64, 91, 97};
        // 9 calls are spent on the costs: the last 12 labellings have an object of their own.
        energiesFromTo(check, ones, 0, 500);
        energiesFromTo(check, ones, 500, 512);
    }

    private static void energiesFromTo(Check check, int[] ones, int from, int end) {
        CutLabels x = new CutLabels();
        for (int place = 0; place < 9; place++) {
            x.cost(place, 100 - ones[place], ones[place]);
        }
        for (int labelling = from; labelling < end; labelling++) {
            int want = 0;
            for (int place = 0; place < 9; place++) {
                want += (labelling >> place & 1) == 1 ? ones[place] : 100 - ones[place];
            }
            check.due("energy(" + labelling + ")", x.energy(labelling), want);
        }
    }

    private static void costsAndTiesAdd(Check check) {
        CutLabels x = new CutLabels();
        x.cost(0, 1, 2);
        x.cost(1, 10, 20);
        x.tie(4, 0, 1, 30, 60);
        x.tie(9, 1, 8, 100, 5);
        check.due("energy(0)", x.energy(0), 11);
        check.due("energy(1)", x.energy(1), 12 + 60);
        check.due("energy(2)", x.energy(2), 21 + 30 + 5);
        check.due("energy(3)", x.energy(3), 22 + 5);
        check.due("energy(256)", x.energy(256), 11 + 100);
        check.due("energy(511)", x.energy(511), 22);
    }

    private static void onlyTheNineLowestBitsCount(Check check) {
        CutLabels x = new CutLabels();
        for (int place = 0; place < 9; place++) {
            x.cost(place, place, 30 + 2 * place);
        }
        x.tie(0, 0, 8, 3, 4);
        for (int low = 0; low < 512; low += 57) {
            int want = x.energy(low);
            for (int bit = 9; bit < 32; bit++) {
                check.due("energy(" + low + " and bit " + bit + ")", x.energy(low | 1 << bit), want);
            }
        }
        check.due("energy(512), past the last labelling, is energy(0)", x.energy(512), 36);
        check.due("energy(513) is energy(1)", x.energy(513), 36 + 30 + 4);
        check.due("energy(1023) is energy(511)", x.energy(1023), 30 * 9 + 72);
        check.due("energy(-512) is energy(0)", x.energy(-512), 36);
        check.due("energy(-511) is energy(1)", x.energy(-511), 36 + 30 + 4);
        check.due("energy(-513) is energy(511)", x.energy(-513), 30 * 9 + 72);
        check.due("energy(-1)", x.energy(-1), 30 * 9 + 72);
        check.due("energy(MIN)", x.energy(Integer.MIN_VALUE), 36);
        check.due("energy(MAX)", x.energy(Integer.MAX_VALUE), 30 * 9 + 72);
    }
}
