import java.util.stream.IntStream;

/** Numbers that are no points: next to the range, at the ends of int, and such that lose themselves in fewer bits. */
final class Outside {
    private static final int[] FAR_BELOW = {Integer.MIN_VALUE, Integer.MIN_VALUE + 1, -65536, -65535, -256, -255, -64,
        -33, -32, -31, -16, -9, -8, -7, -2, -1};
    private static final int[] FAR_ABOVE = {8, 9, 15, 16, 17, 31, 32, 33, 63, 64, 65, 255, 256, 257, 65536, 65537,
        Integer.MAX_VALUE - 1, Integer.MAX_VALUE};

    private Outside() {
    }

    static int[] all(int n) {
        IntStream above = IntStream.concat(IntStream.range(n, 8), IntStream.of(FAR_ABOVE));
        return IntStream.concat(IntStream.of(FAR_BELOW), above).toArray();
    }
}
