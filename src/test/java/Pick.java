/** A row of numbers that looks mixed and is always the same for the same start. */
final class Pick {
    private long seed;

    Pick(long start) {
        seed = start;
    }

    /** One of the numbers from 0 to one less than the end. */
    int below(int end) {
        seed += 0x9E3779B97F4A7C15L;
        long mixed = (seed ^ seed >>> 30) * 0xBF58476D1CE4E5B9L;
        mixed = (mixed ^ mixed >>> 27) * 0x94D049BB133111EBL;
        return (int) ((mixed >>> 33) % end);
    }

    char of(String letters) {
        return letters.charAt(below(letters.length()));
    }
}
