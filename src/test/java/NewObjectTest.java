/** Promise 1, and the calls that find nothing in a new object. */
public final class NewObjectTest {
    public static void main(String[] args) {
        Run x = new Run();
        for (int what = 0; what <= 5; what++) {
            Check.due("told(" + what + ")", x.told(what), 0);
        }
        Check.due("field", x.field(1, 0, 0), -1);
        Check.due("field of map 0", x.field(0, 0, 0), -1);
        Check.due("overlap(0, 0)", x.overlap(0, 0), -1);
        Check.due("overlap(0, 1)", x.overlap(0, 1), -1);
        Check.due("layout", x.layout(0, 0, 0), -1);
        Check.due("screen", x.screen(1, 1, 1), -1);
        Check.due("fill", x.fill(1, 1, 1), -2);
        Check.due("octet(0) throws", x.octet(0), Run.THROWS);
        Check.due("take", x.take(1, 0), -2);
        Check.due("differ(0)", x.differ(0), -2);
        Check.due("differ(1)", x.differ(1), -2);
        Check.due("program(1, 0)", x.program(1, 0), -2);
        Check.due("program(1, 1)", x.program(1, 1), -2);
        Check.due("group", x.group(1, 1), -2);
        objectsAreApart();
        Check.due("NONE", MapText.NONE, -1);
        Check.end();
    }

    private static void objectsAreApart() {
        Run one = Check.withText("M 1 1 9\nF 1 1 1 2 0");
        Check.put(one, "M 2");
        one.fill(1, 1, 5);
        one.take(1, 0);
        Run other = new Run();
        for (int what = 0; what <= 5; what++) {
            Check.due("told(" + what + ") of another object", other.told(what), 0);
        }
        Check.due("octet(0) of another object throws", other.octet(0), Run.THROWS);
    }
}
