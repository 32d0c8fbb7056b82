/** Arguments on and past the edges of a range from 0 to a greatest number. */
final class Edges {
    private Edges() {
    }

    static int[] inside(int greatest) {
        return new int[] {0, 1, greatest - 1, greatest};
    }

    /**
     * The first numbers that are not allowed on both sides, the least and the greatest int, and
     * numbers that would be allowed if only their low 4, 8, 16, 24 or 31 bits were looked at.
     */
    static int[] outside(int greatest) {
        return new int[] {
            -1, -2, greatest + 1, greatest + 2, -greatest,
            Integer.MIN_VALUE, Integer.MIN_VALUE + 1, Integer.MAX_VALUE, Integer.MAX_VALUE - 1,
            greatest + 128, greatest + 256, -256, greatest + 65536, -65536, 1 << 24, Integer.MIN_VALUE + greatest
        };
    }
}
