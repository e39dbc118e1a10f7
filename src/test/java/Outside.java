import java.util.stream.IntStream;
import java.util.stream.LongStream;

/** Numbers that an argument with a range must refuse. */
final class Outside {
    private Outside() {
    }

    /**
     * The neighbours of the range on both sides, the least and the greatest int with theirs, and
     * numbers that would fall into the range if they were cut to fewer bits or multiplied by 2 or 4.
     */
    static int[] of(int least, int greatest) {
        IntStream.Builder found = IntStream.builder();
        LongStream.of(
                least - 1L, greatest + 1L, least - 2L, greatest + 2L,
                Integer.MIN_VALUE, Integer.MAX_VALUE, Integer.MIN_VALUE + 1L, Integer.MAX_VALUE - 1L,
                least + 256L, greatest - 256L, least + 65536L, greatest - 65536L,
                least + (1L << 30), greatest - (1L << 30), least + (1L << 31), greatest - (1L << 31))
                .filter(i -> i == (int) i && (i < least || i > greatest))
                .distinct()
                .forEach(i -> found.add((int) i));
        return found.build().toArray();
    }
}
