import java.util.LinkedHashMap;
import java.util.Map;
import java.util.function.Consumer;

/** Promises 5 to 10 name no change: after a call that only reads, every answer is what it was before. */
public final class ReadingTest {
    public static void main(String[] args) {
        Check check = new Check();
        for (Map.Entry<String, Consumer<Face>> making : Makings.all().entrySet()) {
            Map<String, Integer> before = Answers.of(Used::new, making.getValue());
            for (Map.Entry<String, Consumer<Face>> reading : readings().entrySet()) {
                Map<String, Integer> after = Answers.of(Used::new, x -> {
                    making.getValue().accept(x);
                    reading.getValue().accept(x);
                });
                check.sameAnswers(making.getKey() + ", " + reading.getKey() + ", then", after, before);
            }
        }
        check.done();
    }

    private static Map<String, Consumer<Face>> readings() {
        Map<String, Consumer<Face>> readings = new LinkedHashMap<>();
        readings.put("least()", Face::least);
        readings.put("lower()", Face::lower);
        readings.put("upper()", Face::upper);
        readings.put("with(0, 0)", x -> x.with(0, 0));
        readings.put("with(8, 1)", x -> x.with(8, 1));
        readings.put("with(4, least int)", x -> x.with(4, Integer.MIN_VALUE));
        readings.put("with(4, greatest int)", x -> x.with(4, Integer.MAX_VALUE));
        readings.put("apart(0, 8)", x -> x.apart(0, 8));
        readings.put("apart(8, 0)", x -> x.apart(8, 0));
        readings.put("energy(0)", x -> x.energy(0));
        readings.put("energy(511)", x -> x.energy(511));
        readings.put("energy(least int)", x -> x.energy(Integer.MIN_VALUE));
        readings.put("energy(greatest int)", x -> x.energy(Integer.MAX_VALUE));
        return readings;
    }
}
