/** The draws of a seed, each of twelve, by longs: beside the class, which draws by ints that wrap. */
final class Draws {
    static int[] of(int seed, int n) {
        int[] drawn = new int[n];
        long z = seed;
        for (int i = 0; i < n; i++) {
            z = z * 1103515245L + 12345L & 0xffffffffL;
            drawn[i] = (int) ((z >> 8) % 12);
        }
        return drawn;
    }

    static int howManyBelow(int[] drawn, int bound) {
        int n = 0;
        for (int d : drawn) {
            n += d < bound ? 1 : 0;
        }
        return n;
    }
}
