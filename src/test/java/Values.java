import java.util.stream.IntStream;

/** Arguments to try around the range least..greatest. */
final class Values {
    private Values() {
    }

    /** Just outside, far outside, and such that a cut to a byte or a short would bring them in. */
    static int[] outside(int least, int greatest) {
        return IntStream.of(
                Integer.MIN_VALUE, Integer.MIN_VALUE + 1, least - 65536, least - 256, least - 16, least - 1,
                -greatest, greatest + 1, greatest + 16, least + 256, greatest + 256,
                least + 65536, greatest + 65536, Integer.MAX_VALUE - 1, Integer.MAX_VALUE)
            .filter(value -> value < least || value > greatest).distinct().toArray();
    }

    /** Both ends, their neighbours and a value between them. */
    static int[] inside(int least, int greatest) {
        return IntStream.of(least, least + 1, (least + greatest) / 2, greatest - 1, greatest)
            .filter(value -> value >= least && value <= greatest).distinct().toArray();
    }
}
