/** A CutLabels that counts its calls: past the 512th nothing is promised, so no test may look there. */
final class Used implements Face {
    static final int MOST_CALLS = 512;

    private final CutLabels x = new CutLabels();
    private int calls = 0;

    int calls() {
        return calls;
    }

    private CutLabels next() {
        calls++;
        if (calls > MOST_CALLS) {
            throw new IllegalStateException("the test makes more than 512 calls on one object");
        }
        return x;
    }

    @Override
    public int cost(int place, int zero, int one) {
        return next().cost(place, zero, one);
    }

    @Override
    public int tie(int tie, int i, int j, int u, int v) {
        return next().tie(tie, i, j, u, v);
    }

    @Override
    public int cut(int tie) {
        return next().cut(tie);
    }

    @Override
    public int least() {
        return next().least();
    }

    @Override
    public int lower() {
        return next().lower();
    }

    @Override
    public int upper() {
        return next().upper();
    }

    @Override
    public int with(int place, int label) {
        return next().with(place, label);
    }

    @Override
    public int apart(int i, int j) {
        return next().apart(i, j);
    }

    @Override
    public int energy(int labelling) {
        return next().energy(labelling);
    }
}
