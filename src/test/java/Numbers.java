import java.util.stream.IntStream;

/** Numbers that can't be, those that would be others by a wrap-around among them. */
final class Numbers {
    private static final int[] WILD = {
        Integer.MIN_VALUE, Integer.MIN_VALUE + 1, -65536, -256, -2, -1, 0, 1, 32, 64, 256, 65536, 1 << 24,
        Integer.MAX_VALUE - 1, Integer.MAX_VALUE
    };

    private Numbers() {
    }

    /** No number of so many things. */
    static int[] noneOf(int count) {
        return outside(0, count - 1);
    }

    static int[] outside(int least, int greatest) {
        IntStream edges = IntStream.of(least - 1, greatest + 1);
        return IntStream.concat(edges, IntStream.of(WILD)).filter(n -> n < least || n > greatest).distinct().toArray();
    }

    /** As outside, where NONE is fine. */
    static int[] outsideOrNone(int least, int greatest) {
        return IntStream.of(outside(least, greatest)).filter(n -> n != LostDesk.NONE).toArray();
    }
}
