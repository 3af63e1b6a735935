/** Numbers for which there is none such, at the edge of a range and far from it. */
public final class Outside {
    private Outside() {
    }

    /** Numbers too small for any row. */
    public static int[] below() {
        return new int[] {-1, -2, -40, -64, Integer.MIN_VALUE + 1, Integer.MIN_VALUE};
    }

    /** Numbers too large for a row of so many, or for a range that ends before it. */
    public static int[] from(int count) {
        return new int[] {count, count + 1, count + 32, count + 64, count + 256, 1 << 30,
            Integer.MAX_VALUE - 1, Integer.MAX_VALUE};
    }
}
