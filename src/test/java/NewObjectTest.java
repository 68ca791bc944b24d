/** Promise 1: a new object has no text, whatever other objects have. */
public final class NewObjectTest {
    public static void main(String[] args) {
        Due due = new Due();
        PrimitiveBits first = new PrimitiveBits();
        due.same("take() of a new object", first.take(), 0);
        due.same("text(12345, 3)", first.text(12345, Samples.INT), 5);
        PrimitiveBits second = new PrimitiveBits();
        due.same("take() of another new object", second.take(), 0);
        due.same("text(6, 3)", second.text(6, Samples.INT), 1);
        due.same("the first one's text", Samples.taken(first), "12345");
        due.same("the second one's text", Samples.taken(second), "6");
        due.end();
    }
}
