import java.util.Arrays;
import java.util.Map;

/** Collects the answers that are not as due; each test has its own and ends with done(). */
final class Check {
    private int wrong = 0;

    void due(String call, long got, long want) {
        if (got != want) {
            wrong++;
            System.out.println(call + " answered " + got + ", due is " + want);
        }
    }

    void same(String what, int[] got, int[] want) {
        if (!Arrays.equals(got, want)) {
            wrong++;
            System.out.println(what + ": " + Arrays.toString(got) + ", due is " + Arrays.toString(want));
        }
    }

    void sameAnswers(String where, Map<String, Integer> got, Map<String, Integer> want) {
        for (Map.Entry<String, Integer> entry : want.entrySet()) {
            due(where + ": " + entry.getKey(), got.get(entry.getKey()), entry.getValue());
        }
    }

    void holds(String what, boolean held) {
        if (!held) {
            wrong++;
            System.out.println(what + " does not hold");
        }
    }

    void done() {
        if (wrong != 0) {
            System.out.println(wrong + " answers are not as due");
            System.exit(1);
        }
    }

    /**
     * The energies of all labellings with at most two places of label 1. They settle every
     * other energy, and reading them takes 46 of the 512 calls that an object is good for.
     */
    static int[] energies(CutLabels x) {
        int[] found = new int[46];
        int n = 0;
        found[n++] = x.energy(0);
        for (int i = 0; i < 9; i++) {
            found[n++] = x.energy(1 << i);
            for (int j = 0; j < i; j++) {
                found[n++] = x.energy(1 << i | 1 << j);
            }
        }
        return found;
    }
}
