import java.util.LinkedHashMap;
import java.util.Map;
import java.util.function.Consumer;

/** Calls that bring a new object to a state worth looking at: nothing set, all set, and between. */
final class Makings {
    private Makings() {
    }

    static Map<String, Consumer<Face>> all() {
        Map<String, Consumer<Face>> all = new LinkedHashMap<>();
        all.put("a new object", x -> { });
        all.put("all costs 100, no tie", x -> costs(x, 100, 100));
        all.put("label 1 costs 100 everywhere, no tie", x -> costs(x, 0, 100));
        all.put("label 0 costs 100 everywhere, no tie", x -> costs(x, 100, 0));
        all.put("all costs 0, all 16 ties of 0", x -> ties(x, 0, 0));
        all.put("all costs 0, all 16 ties of 100", x -> ties(x, 100, 100));
        all.put("all costs 0, all 16 ties with u 100", x -> ties(x, 100, 0));
        all.put("all costs 0, all 16 ties with v 100", x -> ties(x, 0, 100));
        all.put("all costs 100, all 16 ties of 100", x -> {
            costs(x, 100, 100);
            ties(x, 100, 100);
        });
        all.put("label 0 costs 100, all 16 ties of 100", x -> {
            costs(x, 100, 0);
            ties(x, 100, 100);
        });
        all.put("all 16 ties on the same two places", x -> {
            for (int tie = 0; tie < 16; tie++) {
                x.tie(tie, 0, 8, 100, 99);
            }
        });
        all.put("all costs 100, all 16 ties of 100 on the same two places", x -> {
            costs(x, 100, 100);
            for (int tie = 0; tie < 16; tie++) {
                x.tie(tie, 0, 8, 100, 100);
            }
        });
        all.put("all set, all different", Makings::allDifferent);
        all.put("half the ties", Makings::halfTheTies);
        return all;
    }

    static void costs(Face x, int zero, int one) {
        for (int place = 0; place < 9; place++) {
            x.cost(place, zero, one);
        }
    }

    /** Each tie joins one of the places 0 and 1 with one of the others, so that energy(3) pays all v. */
    static void ties(Face x, int u, int v) {
        for (int tie = 0; tie < 16; tie++) {
            x.tie(tie, tie % 2, 2 + tie % 7, u, v);
        }
    }

    static void allDifferent(Face x) {
        for (int place = 0; place < 9; place++) {
            x.cost(place, 20 + 7 * place, 90 - 8 * place);
        }
        for (int tie = 0; tie < 16; tie++) {
            x.tie(tie, tie % 9, (tie * 3 + 1) % 9 == tie % 9 ? (tie + 5) % 9 : (tie * 3 + 1) % 9, 1 + tie, 20 + tie);
        }
    }

    private static void halfTheTies(Face x) {
        for (int place = 1; place < 9; place += 2) {
            x.cost(place, 3 * place, 25 - 2 * place);
        }
        for (int tie = 1; tie < 16; tie += 2) {
            x.tie(tie, tie % 9, (tie + 4) % 9, tie, 2 * tie);
        }
    }
}
