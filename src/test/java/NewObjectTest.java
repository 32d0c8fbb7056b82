/** Promise 1: all costs are 0, no tie is there. */
public final class NewObjectTest {
    public static void main(String[] args) {
        Check check = new Check();
        CutLabels x = new CutLabels();
        check.same("energies of a new object", Check.energies(x), new int[46]);
        check.due("least()", x.least(), 0);
        check.due("lower()", x.lower(), 0);
        check.due("upper()", x.upper(), 511);
        for (int tie = 0; tie < 16; tie++) {
            check.due("cut(" + tie + ")", x.cut(tie), 0);
        }
        objectsShareNothing(check);
        check.done();
    }

    private static void objectsShareNothing(Check check) {
        CutLabels first = new CutLabels();
        first.cost(0, 5, 6);
        first.tie(3, 0, 1, 7, 8);
        CutLabels second = new CutLabels();
        check.same("energies of a second object", Check.energies(second), new int[46]);
        check.due("cut(3) of a second object", second.cut(3), 0);
        check.due("cut(3) of the first object", first.cut(3), 1);
    }
}
