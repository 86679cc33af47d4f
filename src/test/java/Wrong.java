import java.util.stream.IntStream;

/**
 * Numbers outside a range that begins with 0. Beside the nearest ones there are those that would be
 * inside if a shift, a byte or a short wrapped them around.
 */
final class Wrong {
    private Wrong() {
    }

    static int[] tooSmall() {
        return new int[] {-1, -2, -31, -32, -256, -65536, Integer.MIN_VALUE + 1, Integer.MIN_VALUE};
    }

    static int[] tooLarge(int most) {
        int[] numbers = {most + 1, most + 2, 31, 32, 33, 64, 256, 65536, Integer.MAX_VALUE - 1, Integer.MAX_VALUE};
        return IntStream.of(numbers).distinct().toArray();
    }

    static int[] outside(int most) {
        return IntStream.concat(IntStream.of(tooSmall()), IntStream.of(tooLarge(most))).toArray();
    }
}
