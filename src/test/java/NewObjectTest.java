/** Promise 1: all costs are 0, no tie is there. */
public final class NewObjectTest {
    public static void main(String[] args) {
        Check check = new Check();
        noCostAndNoTie(check);
        firstCallOfAnyKind(check);
        objectsShareNothing(check);
        check.done();
    }

    private static void noCostAndNoTie(Check check) {
        CutLabels x = new CutLabels();
        check.same("energies of a new object", Check.energies(x), new int[46]);
        check.due("least()", x.least(), 0);
        check.due("lower()", x.lower(), 0);
        check.due("upper()", x.upper(), 511);
        for (int tie = 0; tie < 16; tie++) {
            check.due("cut(" + tie + ")", x.cut(tie), 0);
        }
    }

    private static void firstCallOfAnyKind(Check check) {
        check.due("first call cost(8, 100, 100)", new CutLabels().cost(8, 100, 100), 0);
        check.due("first call tie(15, 0, 8, 100, 100)", new CutLabels().tie(15, 0, 8, 100, 100), 0);
        check.due("first call cut(0)", new CutLabels().cut(0), 0);
        check.due("first call cut(15)", new CutLabels().cut(15), 0);
        check.due("first call least()", new CutLabels().least(), 0);
        check.due("first call lower()", new CutLabels().lower(), 0);
        check.due("first call upper()", new CutLabels().upper(), 511);
        check.due("first call with(8, 1)", new CutLabels().with(8, 1), 0);
        check.due("first call apart(0, 8)", new CutLabels().apart(0, 8), 0);
        check.due("first call energy(511)", new CutLabels().energy(511), 0);
    }

    private static void objectsShareNothing(Check check) {
        CutLabels first = new CutLabels();
        first.cost(0, 5, 6);
        first.tie(3, 0, 1, 7, 8);
        CutLabels second = new CutLabels();
        check.same("energies of a second object", Check.energies(second), new int[46]);
        check.due("cut(3) of a second object", second.cut(3), 0);
        check.due("cut(3) of the first object", first.cut(3), 1);
    }
}
