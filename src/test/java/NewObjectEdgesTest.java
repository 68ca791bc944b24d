/** Promise 1: a new object has no text, whatever other objects have. */
public final class NewObjectEdgesTest {
    public static void main(String[] args) {
        Due due = new Due();
        new Trial(due, "No text is there").take(0).take(0).text(5, Samples.INT, 1).take("5").take(0);
        new Trial(due, "No text is there after calls that make none")
            .binary(0, 1, 2, Samples.INT, 3).minus(1, Samples.LONG, -1).cast(7, Samples.INT, Samples.BYTE, 7)
            .compare(1, 2, Samples.INT, -1).take(0);
        new Trial(due, "No text is there after a text that is refused").text(1, Samples.CHAR, Trial.ILLEGAL).take(0);

        Trial first = new Trial(due, "No text is there: the first object").text(1234567890, Samples.INT, 10).take("12345678");
        Trial second = new Trial(due, "No text is there: an object made later").take(0).text(6, Samples.INT, 1);
        first.take("90").take(0);
        second.take("6").take(0);
        due.end();
    }
}
