// Numbers just outside what the document allows, far outside, and such as a
// shift, a mask or a cast to a smaller type would turn into allowed ones.
final class Wrong {
    static final int[] VARIABLES = {
        -1, 12, -2, 13, 15, 16, 23, 24, -11, -12, -16, 31, 32, 43, -32, 64,
        255, 256, 267, 65535, 65536, 65547, 1 << 30, 1 << 31, (1 << 31) + 11,
        Integer.MAX_VALUE, Integer.MAX_VALUE - 11,
    };
    static final int[] KINDS = {
        -1, 4, -2, 5, -3, -4, 7, 8, 12, 32, 35, -32, 256, 259, 65536, 65539,
        Integer.MIN_VALUE, Integer.MIN_VALUE + 3, Integer.MAX_VALUE, Integer.MAX_VALUE - 3,
    };

    private Wrong() {
    }
}
