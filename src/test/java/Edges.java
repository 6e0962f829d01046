/** Ints at the bounds of a range and beyond them. */
final class Edges {
    /** Values that a push may bear: any int. */
    static final int[] VALUES = {Integer.MIN_VALUE, Integer.MIN_VALUE + 1, -256, -2, -1, 0, 1, 2, 255, 256, 65536,
        Integer.MAX_VALUE - 1, Integer.MAX_VALUE};

    private Edges() {
    }

    /**
     * Outside of least..greatest: the nearest ints, the farthest ones, and some that would come inside if only their
     * lowest 8, 16 or 31 bits were looked at. The range may be empty (greatest = least - 1).
     */
    static int[] outside(int least, int greatest) {
        return new int[] {least - 1, least - 2, greatest + 1, greatest + 2, Integer.MIN_VALUE, Integer.MIN_VALUE + 1,
            Integer.MAX_VALUE - 1, Integer.MAX_VALUE, least - 256, least + 256, least + 65536, 1 << 30, -100, 100};
    }
}
