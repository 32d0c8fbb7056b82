import java.util.Map;
import java.util.function.Consumer;

/**
 * Nothing set and all set: no tie and all 16 ties, all costs 0 and all costs 100. Every answer is held
 * against the flow model's, and those that can be told without it against the number itself.
 */
public final class AllOrNothingTest {
    private final Check check = new Check();

    public static void main(String[] args) {
        AllOrNothingTest test = new AllOrNothingTest();
        for (Map.Entry<String, Consumer<Face>> making : Makings.all().entrySet()) {
            test.check.sameAnswers(making.getKey(),
                Answers.of(Used::new, making.getValue()), Answers.of(FlowModel::new, making.getValue()));
        }
        test.nothingSet();
        test.allCostsHundred();
        test.oneLabelFree();
        test.tiesOfZeroAreThere();
        test.tiesAlone();
        test.everythingAtItsGreatest();
        test.allTiesOnTheSamePlaces();
        test.check.done();
    }

    private static Map<String, Integer> answers(String name) {
        return Answers.of(Used::new, Makings.all().get(name));
    }

    private void due(String name, String call, int want) {
        check.due(name + ": " + call, answers(name).get(call), want);
    }

    private void allAlike(String name, int energy, int apart) {
        Map<String, Integer> found = answers(name);
        for (int labelling = 0; labelling < 512; labelling++) {
            check.due(name + ": energy(" + labelling + ")", found.get("energy(" + labelling + ")"), energy);
        }
        for (int place = 0; place < 9; place++) {
            check.due(name + ": with(" + place + ", 0)", found.get("with(" + place + ", 0)"), energy);
            check.due(name + ": with(" + place + ", 1)", found.get("with(" + place + ", 1)"), energy);
        }
        check.due(name + ": apart(0, 8)", found.get("apart(0, 8)"), apart);
        check.due(name + ": apart(8, 0)", found.get("apart(8, 0)"), apart);
        bestOnes(name, energy, 0, 511);
    }

    private void bestOnes(String name, int least, int lower, int upper) {
        due(name, "least()", least);
        due(name, "lower()", lower);
        due(name, "upper()", upper);
    }

    private void cuts(String name, int answer) {
        for (int tie = 0; tie < 16; tie++) {
            due(name, "cut(" + tie + ")", answer);
        }
    }

    private void nothingSet() {
        allAlike("a new object", 0, 0);
        cuts("a new object", 0);
    }

    private void allCostsHundred() {
        allAlike("all costs 100, no tie", 900, 900);
        cuts("all costs 100, no tie", 0);
    }

    private void oneLabelFree() {
        String zeroFree = "label 1 costs 100 everywhere, no tie";
        bestOnes(zeroFree, 0, 0, 0);
        due(zeroFree, "energy(511)", 900);
        due(zeroFree, "with(8, 1)", 100);
        due(zeroFree, "apart(0, 8)", 100);
        String oneFree = "label 0 costs 100 everywhere, no tie";
        bestOnes(oneFree, 0, 511, 511);
        due(oneFree, "energy(0)", 900);
        due(oneFree, "with(8, 0)", 100);
        due(oneFree, "apart(0, 8)", 100);
    }

    private void tiesOfZeroAreThere() {
        allAlike("all costs 0, all 16 ties of 0", 0, 0);
        cuts("all costs 0, all 16 ties of 0", 1);
    }

    private void tiesAlone() {
        String both = "all costs 0, all 16 ties of 100";
        bestOnes(both, 0, 0, 511);
        cuts(both, 1);
        due(both, "energy(3)", 1600);
        due(both, "energy(508)", 1600);
        due(both, "with(0, 1)", 0);
        due(both, "apart(0, 1)", 700);
        due("all costs 0, all 16 ties with u 100", "energy(508)", 1600);
        due("all costs 0, all 16 ties with u 100", "energy(3)", 0);
        due("all costs 0, all 16 ties with v 100", "energy(508)", 0);
        due("all costs 0, all 16 ties with v 100", "energy(3)", 1600);
    }

    private void everythingAtItsGreatest() {
        String name = "all costs 100, all 16 ties of 100";
        bestOnes(name, 900, 0, 511);
        cuts(name, 1);
        due(name, "energy(3)", 2500);
        due(name, "energy(508)", 2500);
        due(name, "apart(0, 1)", 1600);
        bestOnes("label 0 costs 100, all 16 ties of 100", 0, 511, 511);
        due("label 0 costs 100, all 16 ties of 100", "with(0, 0)", 100 + 8 * 100);
    }

    private void allTiesOnTheSamePlaces() {
        String name = "all 16 ties on the same two places";
        bestOnes(name, 0, 0, 511);
        cuts(name, 1);
        due(name, "energy(256)", 1600);
        due(name, "energy(1)", 1584);
        due(name, "energy(257)", 0);
        due(name, "apart(0, 8)", 1584);
        String dearest = "all costs 100, all 16 ties of 100 on the same two places";
        bestOnes(dearest, 900, 0, 511);
        due(dearest, "apart(0, 8)", 2500);
        due(dearest, "apart(8, 0)", 2500);
        due(dearest, "apart(0, 7)", 900);
    }
}
