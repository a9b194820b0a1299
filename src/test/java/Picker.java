/** Numbers that lie about without order, but are the same ones in every run of a test. */
final class Picker {
    private long seed;

    Picker(long seed) {
        this.seed = seed;
    }

    /** A number from 0 to n - 1. */
    int pick(int n) {
        seed = seed * 6364136223846793005L + 1442695040888963407L;
        return (int) ((seed >>> 33) % n);
    }

    int pickOf(int... numbers) {
        return numbers[pick(numbers.length)];
    }
}
