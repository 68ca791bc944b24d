/** Objects that are never asked for more calls than the document promises answers for. */
final class Supply {
    static final int MOST_CALLS = 512;

    private PrimitiveBits x = new PrimitiveBits();
    private int used = 0;

    /** An object that has so many calls left. */
    PrimitiveBits object(int calls) {
        if (used + calls > MOST_CALLS) {
            x = new PrimitiveBits();
            used = 0;
        }
        used += calls;
        return x;
    }
}
