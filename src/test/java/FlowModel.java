import java.util.Arrays;

/**
 * A second way to the same answers, for tests: a labelling is a cut between a source (label 1)
 * and a sink (label 0), so the least energy is the greatest flow, and the places that the source
 * still reaches, or that no longer reach the sink, are the smallest and the largest best labelling.
 */
final class FlowModel implements Face {
    private static final int SOURCE = 9;
    private static final int SINK = 10;
    private static final int NODES = 11;
    private static final int NEVER_CUT = 1_000_000;

    private final int[] zero = new int[9];
    private final int[] one = new int[9];
    private final int[][] ties = new int[16][];
    private int[][] room;

    @Override
    public int cost(int place, int zeroCost, int oneCost) {
        if (out(place, 8) || out(zeroCost, 100) || out(oneCost, 100)) {
            return -1;
        }
        zero[place] = zeroCost;
        one[place] = oneCost;
        return 0;
    }

    @Override
    public int tie(int tie, int i, int j, int u, int v) {
        if (out(tie, 15) || out(i, 8) || out(j, 8) || i == j || out(u, 100) || out(v, 100)) {
            return -1;
        }
        ties[tie] = new int[] {i, j, u, v};
        return 0;
    }

    @Override
    public int cut(int tie) {
        if (out(tie, 15)) {
            return -1;
        }
        int answer = ties[tie] == null ? 0 : 1;
        ties[tie] = null;
        return answer;
    }

    @Override
    public int least() {
        prepare();
        return flow();
    }

    @Override
    public int lower() {
        least();
        int found = 0;
        boolean[] reached = reachedFromSource();
        for (int place = 0; place < 9; place++) {
            found |= reached[place] ? 1 << place : 0;
        }
        return found;
    }

    @Override
    public int upper() {
        least();
        int found = 0;
        boolean[] reaching = reachingSink();
        for (int place = 0; place < 9; place++) {
            found |= reaching[place] ? 0 : 1 << place;
        }
        return found;
    }

    @Override
    public int with(int place, int label) {
        if (out(place, 8)) {
            return -1;
        }
        prepare();
        fix(place, label & 1);
        return flow();
    }

    @Override
    public int apart(int i, int j) {
        if (out(i, 8) || out(j, 8) || i == j) {
            return -1;
        }
        prepare();
        fix(i, 0);
        fix(j, 1);
        int first = flow();
        prepare();
        fix(i, 1);
        fix(j, 0);
        return Math.min(first, flow());
    }

    @Override
    public int energy(int labelling) {
        boolean[] has = new boolean[9];
        int sum = 0;
        for (int place = 0; place < 9; place++) {
            has[place] = (labelling & 1 << place) != 0;
            sum += has[place] ? one[place] : zero[place];
        }
        for (int[] tie : ties) {
            if (tie != null && !has[tie[0]] && has[tie[1]]) {
                sum += tie[2];
            }
            if (tie != null && has[tie[0]] && !has[tie[1]]) {
                sum += tie[3];
            }
        }
        return sum;
    }

    private static boolean out(int number, int greatest) {
        return number < 0 || number > greatest;
    }

    private void prepare() {
        room = new int[NODES][NODES];
        for (int place = 0; place < 9; place++) {
            room[SOURCE][place] = zero[place];
            room[place][SINK] = one[place];
        }
        for (int[] tie : ties) {
            if (tie != null) {
                room[tie[1]][tie[0]] += tie[2];
                room[tie[0]][tie[1]] += tie[3];
            }
        }
    }

    private void fix(int place, int label) {
        if (label == 1) {
            room[SOURCE][place] = NEVER_CUT;
        } else {
            room[place][SINK] = NEVER_CUT;
        }
    }

    private int flow() {
        int total = 0;
        int added = push(SOURCE, NEVER_CUT, new boolean[NODES]);
        while (added > 0) {
            total += added;
            added = push(SOURCE, NEVER_CUT, new boolean[NODES]);
        }
        return total;
    }

    private int push(int node, int most, boolean[] seen) {
        if (node == SINK) {
            return most;
        }
        seen[node] = true;
        for (int next = 0; next < NODES; next++) {
            if (!seen[next] && room[node][next] > 0) {
                int sent = push(next, Math.min(most, room[node][next]), seen);
                if (sent > 0) {
                    room[node][next] -= sent;
                    room[next][node] += sent;
                    return sent;
                }
            }
        }
        return 0;
    }

    private boolean[] reachedFromSource() {
        boolean[] reached = new boolean[NODES];
        reached[SOURCE] = true;
        for (boolean[] before = null; !Arrays.equals(before, reached); ) {
            before = reached.clone();
            for (int a = 0; a < NODES; a++) {
                for (int b = 0; b < NODES; b++) {
                    reached[b] |= reached[a] && room[a][b] > 0;
                }
            }
        }
        return reached;
    }

    private boolean[] reachingSink() {
        boolean[] reaching = new boolean[NODES];
        reaching[SINK] = true;
        for (boolean[] before = null; !Arrays.equals(before, reaching); ) {
            before = reaching.clone();
            for (int a = 0; a < NODES; a++) {
                for (int b = 0; b < NODES; b++) {
                    reaching[a] |= reaching[b] && room[a][b] > 0;
                }
            }
        }
        return reaching;
    }
}
