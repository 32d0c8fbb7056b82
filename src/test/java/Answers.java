import java.util.LinkedHashMap;
import java.util.Map;
import java.util.function.Consumer;
import java.util.function.Supplier;

/**
 * Every answer that an object gives. They are more than 512 calls, so they are read from three
 * objects that were made by the same calls; the third tells each tie by what cutting it changes.
 */
final class Answers {
    private Answers() {
    }

    static Map<String, Integer> of(Supplier<? extends Face> fresh, Consumer<Face> making) {
        Map<String, Integer> found = new LinkedHashMap<>();
        bestOnes(made(fresh, making), found);
        energies(made(fresh, making), found);
        eachTie(made(fresh, making), found);
        return found;
    }

    private static Face made(Supplier<? extends Face> fresh, Consumer<Face> making) {
        Face x = fresh.get();
        making.accept(x);
        return x;
    }

    private static void bestOnes(Face x, Map<String, Integer> found) {
        found.put("least()", x.least());
        found.put("lower()", x.lower());
        found.put("upper()", x.upper());
        for (int i = 0; i < 9; i++) {
            found.put("with(" + i + ", 0)", x.with(i, 0));
            found.put("with(" + i + ", 1)", x.with(i, 1));
            for (int j = 0; j < 9; j++) {
                found.put("apart(" + i + ", " + j + ")", x.apart(i, j));
            }
        }
        for (int labelling = 0; labelling < 256; labelling++) {
            found.put("energy(" + labelling + ")", x.energy(labelling));
        }
    }

    private static void energies(Face x, Map<String, Integer> found) {
        for (int labelling = 256; labelling < 512; labelling++) {
            found.put("energy(" + labelling + ")", x.energy(labelling));
        }
    }

    private static void eachTie(Face x, Map<String, Integer> found) {
        for (int tie = 0; tie < 16; tie++) {
            found.put("cut(" + tie + ")", x.cut(tie));
            for (int place = 0; place < 9; place++) {
                found.put("energy(" + (1 << place) + ") without ties up to " + tie, x.energy(1 << place));
            }
        }
    }
}
