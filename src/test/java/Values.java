import java.util.stream.IntStream;

/** Numbers at the bounds of what is taken, and beyond them. */
final class Values {
    private static final int[] FAR = {Integer.MIN_VALUE, Integer.MIN_VALUE + 1, -(1 << 30), -100000, -65536, -256,
        256, 65536, 100000, 1 << 30, Integer.MAX_VALUE - 1, Integer.MAX_VALUE};

    private Values() {
    }

    /** The first beyond the bounds on both sides, and those with which a sum would wrap around. */
    static int[] outside(int least, int most) {
        IntStream near = IntStream.of(least - 1, most + 1);
        return IntStream.concat(near, IntStream.of(FAR)).filter(v -> v < least || v > most).distinct().toArray();
    }

    /** The last that are taken on both sides, and those next to them. */
    static int[] atBounds(int least, int most) {
        return IntStream.of(least, least + 1, most - 1, most).filter(v -> v >= least && v <= most).distinct()
            .toArray();
    }
}
