public final class CutLabels {
    private static final int PLACES = 9;
    private static final int TIES = 16;
    private static final int LABELLINGS = 512;
    private static final int ALL_ONES = LABELLINGS - 1;
    private static final int GREATEST_COST = 100;
    private static final int ABOVE_EVERY_ENERGY = (PLACES + TIES) * GREATEST_COST + 1;
    private static final int REFUSED = -1;

    private final int[] zeroCost = new int[PLACES];
    private final int[] oneCost = new int[PLACES];

    private final boolean[] tieThere = new boolean[TIES];
    private final int[] tieFrom = new int[TIES];
    private final int[] tieTo = new int[TIES];
    private final int[] tieCostZeroOne = new int[TIES];
    private final int[] tieCostOneZero = new int[TIES];

    public CutLabels() {
    }

    public int cost(int place, int zero, int one) {
        if (!isPlace(place) || !isCost(zero) || !isCost(one)) {
            return REFUSED;
        }
        zeroCost[place] = zero;
        oneCost[place] = one;
        return 0;
    }

    public int tie(int tie, int i, int j, int u, int v) {
        if (!isTie(tie) || !areTwoPlaces(i, j) || !isCost(u) || !isCost(v)) {
            return REFUSED;
        }
        tieThere[tie] = true;
        tieFrom[tie] = i;
        tieTo[tie] = j;
        tieCostZeroOne[tie] = u;
        tieCostOneZero[tie] = v;
        return 0;
    }

    public int cut(int tie) {
        if (!isTie(tie)) {
            return REFUSED;
        }
        int answer = tieThere[tie] ? 1 : 0;
        tieThere[tie] = false;
        return answer;
    }

    public int least() {
        return leastEnergy();
    }

    // Where two labellings are best, so is what they have in common: what all
    // the best ones have in common is therefore itself the smallest of them.
    public int lower() {
        int best = leastEnergy();
        int common = ALL_ONES;
        for (int labelling = 0; labelling < LABELLINGS; labelling++) {
            if (energyOf(labelling) == best) {
                common &= labelling;
            }
        }
        return common;
    }

    // As with lower(): the union of best labellings is best.
    public int upper() {
        int best = leastEnergy();
        int union = 0;
        for (int labelling = 0; labelling < LABELLINGS; labelling++) {
            if (energyOf(labelling) == best) {
                union |= labelling;
            }
        }
        return union;
    }

    public int with(int place, int label) {
        if (!isPlace(place)) {
            return REFUSED;
        }
        int wanted = label & 1;
        int best = ABOVE_EVERY_ENERGY;
        for (int labelling = 0; labelling < LABELLINGS; labelling++) {
            if (labelAt(labelling, place) == wanted) {
                int energy = energyOf(labelling);
                best = energy < best ? energy : best;
            }
        }
        return best;
    }

    public int apart(int i, int j) {
        if (!areTwoPlaces(i, j)) {
            return REFUSED;
        }
        int best = ABOVE_EVERY_ENERGY;
        for (int labelling = 0; labelling < LABELLINGS; labelling++) {
            if (labelAt(labelling, i) != labelAt(labelling, j)) {
                int energy = energyOf(labelling);
                best = energy < best ? energy : best;
            }
        }
        return best;
    }

    public int energy(int labelling) {
        return energyOf(labelling & ALL_ONES);
    }

    private int leastEnergy() {
        int best = ABOVE_EVERY_ENERGY;
        for (int labelling = 0; labelling < LABELLINGS; labelling++) {
            int energy = energyOf(labelling);
            best = energy < best ? energy : best;
        }
        return best;
    }

    private int energyOf(int labelling) {
        int sum = 0;
        for (int place = 0; place < PLACES; place++) {
            sum += labelAt(labelling, place) == 0 ? zeroCost[place] : oneCost[place];
        }
        for (int tie = 0; tie < TIES; tie++) {
            if (tieThere[tie]) {
                sum += tieEnergy(tie, labelling);
            }
        }
        return sum;
    }

    private int tieEnergy(int tie, int labelling) {
        int from = labelAt(labelling, tieFrom[tie]);
        int to = labelAt(labelling, tieTo[tie]);
        if (from == to) {
            return 0;
        }
        return from == 0 ? tieCostZeroOne[tie] : tieCostOneZero[tie];
    }

    private static int labelAt(int labelling, int place) {
        return (labelling >> place) & 1;
    }

    private static boolean isPlace(int place) {
        return place >= 0 && place < PLACES;
    }

    private static boolean areTwoPlaces(int i, int j) {
        return isPlace(i) && isPlace(j) && i != j;
    }

    private static boolean isTie(int tie) {
        return tie >= 0 && tie < TIES;
    }

    private static boolean isCost(int cost) {
        return cost >= 0 && cost <= GREATEST_COST;
    }
}
