import java.util.ArrayList;
import java.util.List;
import java.util.Map;
import java.util.Random;
import java.util.function.Consumer;
import java.util.function.IntPredicate;

/**
 * Terms: "A BEST labelling is one of least energy. (If two labellings are best, then so is the one that
 * has label 1 where both have it, and the one that has label 1 where at least one has it.)" Every answer
 * about best labellings is held against the 512 energies that objects of the same state answer.
 */
public final class BestTest {
    private static final int SEEDS = 60;

    private final Check check = new Check();
    private final String state;
    private final Map<String, Integer> found;

    private BestTest(String state, Consumer<Face> making) {
        this.state = state;
        this.found = Answers.of(Used::new, making);
    }

    public static void main(String[] args) {
        for (Map.Entry<String, Consumer<Face>> making : Makings.all().entrySet()) {
            new BestTest(making.getKey(), making.getValue()).all();
        }
        for (int seed = 0; seed < SEEDS; seed++) {
            int number = seed;
            new BestTest("seed " + seed, x -> smallCosts(x, new Random(number))).all();
        }
        everyCountOfBestOnes();
    }

    /** Small costs, so that many labellings are best at once. */
    private static void smallCosts(Face x, Random random) {
        for (int place = 0; place < 9; place++) {
            x.cost(place, random.nextInt(3), random.nextInt(3));
        }
        for (int tie = 0; tie < 16; tie++) {
            int i = random.nextInt(9);
            x.tie(tie, i, (i + 1 + random.nextInt(8)) % 9, random.nextInt(3), random.nextInt(3));
        }
    }

    /** From one best labelling (no place is free) to all 512 (all are), and ten along a chain of ties. */
    private static void everyCountOfBestOnes() {
        for (int free = 0; free < 10; free++) {
            int bound = 9 - free;
            BestTest test = new BestTest(free + " free places", x -> {
                for (int place = 0; place < bound; place++) {
                    x.cost(place, place % 2, 1 - place % 2);
                }
            });
            test.check.due(test.state + ": best ones", test.best().size(), 1 << free);
            test.all();
        }
        BestTest chain = new BestTest("a chain", x -> {
            for (int tie = 0; tie < 8; tie++) {
                x.tie(tie, tie, tie + 1, 1, 0);
            }
        });
        chain.check.due("best ones of a chain", chain.best().size(), 10);
        chain.all();
    }

    private void all() {
        due("least()", leastWhere(labelling -> true));
        meetsAndJoinsAreBest();
        lowerAndUpper();
        withs();
        aparts();
        check.done();
    }

    private void due(String call, int want) {
        check.due(state + ": " + call, found.get(call), want);
    }

    private int energy(int labelling) {
        return found.get("energy(" + labelling + ")");
    }

    private int leastWhere(IntPredicate allowed) {
        int least = Integer.MAX_VALUE;
        for (int labelling = 0; labelling < 512; labelling++) {
            least = allowed.test(labelling) ? Math.min(least, energy(labelling)) : least;
        }
        return least;
    }

    private List<Integer> best() {
        int least = leastWhere(labelling -> true);
        List<Integer> best = new ArrayList<>();
        for (int labelling = 0; labelling < 512; labelling++) {
            if (energy(labelling) == least) {
                best.add(labelling);
            }
        }
        return best;
    }

    private void meetsAndJoinsAreBest() {
        int least = leastWhere(labelling -> true);
        for (int one : best()) {
            for (int other : best()) {
                check.due(state + ": energy of " + one + " and " + other, energy(one & other), least);
                check.due(state + ": energy of " + one + " or " + other, energy(one | other), least);
            }
        }
    }

    private void lowerAndUpper() {
        int fewest = 511;
        int most = 0;
        for (int labelling : best()) {
            fewest = Integer.bitCount(labelling) < Integer.bitCount(fewest) ? labelling : fewest;
            most = Integer.bitCount(labelling) > Integer.bitCount(most) ? labelling : most;
        }
        due("lower()", fewest);
        due("upper()", most);
        for (int labelling : best()) {
            check.due(state + ": label 1 in lower() but not in " + labelling, fewest & ~labelling, 0);
            check.due(state + ": label 1 in " + labelling + " but not in upper()", labelling & ~most, 0);
        }
    }

    private void withs() {
        for (int place = 0; place < 9; place++) {
            int bit = 1 << place;
            due("with(" + place + ", 0)", leastWhere(labelling -> (labelling & bit) == 0));
            due("with(" + place + ", 1)", leastWhere(labelling -> (labelling & bit) != 0));
        }
    }

    private void aparts() {
        for (int i = 0; i < 9; i++) {
            for (int j = 0; j < 9; j++) {
                int both = 1 << i | 1 << j;
                due("apart(" + i + ", " + j + ")",
                    i == j ? -1 : leastWhere(labelling -> Integer.bitCount(labelling & both) == 1));
            }
        }
    }
}
