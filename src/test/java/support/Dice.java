/** Numbers that look thrown, the same in every run of a test. */
final class Dice {
    private long state;

    Dice(long seed) {
        state = seed * 0x9E3779B97F4A7C15L + 0x1234567L;
    }

    int below(int bound) {
        state ^= state << 13;
        state ^= state >>> 7;
        state ^= state << 17;
        return (int) ((state >>> 11) % bound);
    }

    boolean oneIn(int n) {
        return below(n) == 0;
    }

    char of(String characters) {
        return characters.charAt(below(characters.length()));
    }
}
