/** The draws of the document, reckoned once more in a plain way. */
final class Draws {
    private long g;

    Draws(int seed) {
        g = seed;
    }

    int below(int m) {
        g = (g * 1103515245L + 12345L) % 2147483648L;
        return (int) (g / 65536 % m);
    }
}
