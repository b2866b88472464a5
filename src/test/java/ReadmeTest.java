/** The calls that README.md shows, and what its table says of a call that is refused. */
public final class ReadmeTest {
    public static void main(String[] args) {
        example();
        refused();
        Check.finish();
    }

    private static void example() {
        SureSums x = new SureSums();
        Check.due("feed", x.feed(0x6c657420, 0x61203d20, 0x312f333b, 0x20202020, 0x20202020), 20);
        Check.due("text(12)", x.text(12), 1);
        Check.due("span(0, 4, 0)", x.span(0, 4, 0), 5);
        Check.due("span(0, 4, 1)", x.span(0, 4, 1), 6);
        Check.due("digits(0)", x.digits(0), 5);
        Check.due("exact(0, 1)", x.exact(0, 1), 3);
        Check.dueDouble("machine(0)", x.machine(0), 1.0 / 3.0);
    }

    private static void refused() {
        SureSums x = Check.told("let a = 1/3; fun f = t;");
        Check.due("a text with a fault", Check.tell(x, "let b = ;"), SureSums.NONE);
        Check.due("its fault", x.fault(0), 1);
        Check.due("its place", x.fault(1), 8);
        Check.due("what was told stays", x.count(3), 2);
        Check.due("more than the tape has", x.text(1), -2);
        Check.due("the span of a function", x.span(5, 4, 0), Long.MIN_VALUE);
        Check.due("a number over pieces", x.where(0, 0, 1), 0);
        Check.due("a number told apart from a function", x.compare(0, 5), Integer.MIN_VALUE);
        Check.due("a square of a number", x.dot(0, 0, 0), SureSums.NONE);
    }
}
