/** Promise 8: what fill() edits, read by octet(). */
public final class FillTest {
    public static void main(String[] args) {
        withoutPicture();
        toTheRight();
        noughts();
        decimals();
        edges();
        onePlace();
        everyCountOfDigits();
        everyPicture();
        missing();
        attributesAndMarksLeaveItAlone();
        Check.end();
    }

    private static void edit(int length, String picture, int v, String want) {
        Run x = Check.withText("M 1 1 80\nF 1 1 1 " + length + " 0\n" + picture);
        String call = "fill(1, 1, " + v + ") of length " + length + ", " + picture;
        int count = x.fill(1, 1, v);
        Check.due(call, count, length);
        Check.due(call, Check.octets(x, count), want);
        Check.due("octet() behind the last", x.octet(count), Run.THROWS);
    }

    private static void withoutPicture() {
        edit(5, "", 0, "0    ");
        edit(5, "", 42, "42   ");
        edit(5, "", -42, "-42  ");
        edit(5, "", -1234, "-1234");
        edit(5, "", -12345, "12345");
        edit(5, "", 1234567, "34567");
        edit(5, "", 1000045, "00045");
        edit(1, "", -7, "7");
        edit(1, "", 0, "0");
        edit(5, "P 0 0 0", -42, "-42  ");
    }

    private static void toTheRight() {
        edit(5, "P 0 1 0", 0, "    0");
        edit(5, "P 0 1 0", 42, "   42");
        edit(5, "P 0 1 0", -42, "  -42");
        edit(5, "P 0 1 0", -1234, "-1234");
        edit(5, "P 0 1 0", -12345, "12345");
    }

    private static void noughts() {
        for (int j = 0; j <= 1; j++) {
            String picture = "P 0 " + j + " 1";
            edit(5, picture, 0, "00000");
            edit(5, picture, 42, "00042");
            edit(5, picture, -42, "-0042");
            edit(5, picture, -1234, "-1234");
            edit(5, picture, -12345, "12345");
            edit(5, picture, -1002345, "-2345");
            edit(1, picture, -10, "-");
        }
    }

    private static void decimals() {
        edit(6, "P 2 1 0", 0, "  0.00");
        edit(6, "P 2 1 0", 5, "  0.05");
        edit(6, "P 2 1 0", -5, " -0.05");
        edit(6, "P 2 0 0", -5, "-0.05 ");
        edit(6, "P 2 0 0", 12, "0.12  ");
        edit(6, "P 2 1 0", 12345, "123.45");
        edit(6, "P 2 1 0", -1234, "-12.34");
        edit(6, "P 2 1 0", -12345, "123.45");
        edit(6, "P 2 1 0", 1234567, "345.67");
        edit(6, "P 2 1 1", 5, "000.05");
        edit(6, "P 2 0 1", -5, "-00.05");
        edit(6, "P 2 0 1", -12345, "123.45");
        edit(4, "P 2 1 0", -5, "0.05");
        edit(4, "P 2 1 1", -5, "-.05");
        edit(3, "P 2 1 0", -5, ".05");
        edit(3, "P 2 1 1", -5, ".05");
        edit(2, "P 1 0 0", 78, ".8");
        edit(10, "P 9 1 0", 7, ".000000007");
        edit(12, "P 9 1 0", -7, "-0.000000007");
    }

    private static void edges() {
        edit(12, "P 0 1 0", Integer.MIN_VALUE, " -2147483648");
        edit(12, "", Integer.MAX_VALUE, "2147483647  ");
        edit(12, "P 9 1 1", Integer.MIN_VALUE, "-2.147483648");
        edit(11, "P 9 1 1", Integer.MIN_VALUE, "2.147483648");
        edit(79, "P 0 0 1", -1, "-" + "0".repeat(77) + "1");
    }

    /** One place: one digit, whatever the number; a - only where a nought was. */
    private static void onePlace() {
        String[] pictures = {"", "P 0 0 0", "P 0 1 0"};
        for (String picture : pictures) {
            edit(1, picture, 9, "9");
            edit(1, picture, 10, "0");
            edit(1, picture, -9, "9");
            edit(1, picture, -10, "0");
            edit(1, picture, 0, "0");
        }
        edit(1, "P 0 0 1", 0, "0");
        edit(1, "P 0 0 1", -9, "9");
        edit(1, "P 0 1 1", -20, "-");
    }

    /** "digits as many as it has places, the lowest ones": a digit fewer, as many, one more than the places. */
    private static void everyCountOfDigits() {
        int[] numbers = {1, 12, 123, 1234, 12345, 123456, 1234567, 12345678, 123456789, 1234567891};
        for (int v : numbers) {
            String digits = "" + v;
            int count = digits.length();
            edit(count + 1, "", v, digits + " ");
            edit(count + 1, "", -v, "-" + digits);
            edit(count + 2, "", -v, "-" + digits + " ");
            edit(count + 1, "P 0 1 0", v, " " + digits);
            edit(count + 1, "P 0 1 0", -v, "-" + digits);
            edit(count + 2, "P 0 1 0", -v, " -" + digits);
            edit(count + 1, "P 0 1 1", v, "0" + digits);
            edit(count + 1, "P 0 1 1", -v, "-" + digits);
            edit(count + 2, "P 0 0 1", -v, "-0" + digits);
            edit(count, "", v, digits);
            edit(count, "", -v, digits);
            edit(count, "P 0 0 1", -v, digits);
            if (count > 1) {
                edit(count - 1, "", v, digits.substring(1));
                edit(count - 1, "P 0 1 0", -v, digits.substring(1));
                edit(count - 1, "P 0 1 1", -v, digits.substring(1));
            }
        }
    }

    /** Every length, decimals, side and filling against the Model, for numbers about the counts of digits. */
    private static void everyPicture() {
        int[] numbers = {0, 1, -1, 9, -9, 10, -10, 99, -100, 1005, -1005, 70000, -70000, 123456789, -123456789,
            1000000000, -1000000000, Integer.MAX_VALUE, -Integer.MAX_VALUE, Integer.MIN_VALUE};
        for (int l = 1; l <= 14; l++) {
            for (int d = 0; d <= 9 && d < l; d++) {
                for (int jf = 0; jf < 4; jf++) {
                    String text = "M 1 1 80\nF 1 1 1 " + l + " 0\nP " + d + " " + jf / 2 + " " + jf % 2;
                    Run x = Check.withText(text);
                    Model model = new Model();
                    for (int c : Check.fours(text)) {
                        model.sign(c);
                    }
                    model.read();
                    for (int v : numbers) {
                        Check.due("length", x.fill(1, 1, v), model.fill(1, 1, v));
                        Check.due(v + " in " + text.replace("\n", "|"), Check.octets(x, l), model.edited());
                    }
                }
            }
        }
    }

    /** "-2 no such map or field (none with a name)". */
    private static void missing() {
        Run x = Check.withText("M 1 1 80\nF 0 1 1 3 0\nF 4 1 10 3 0\nM 2 1 80\nF 5 1 1 2 0");
        Check.due("fill(1, 4, 12)", x.fill(1, 4, 12), 3);
        int[] none = {0, 1, 3, 5, -4, 99, 100, Integer.MAX_VALUE, Integer.MIN_VALUE};
        for (int field : none) {
            Check.due("fill(1, " + field + ", 1)", x.fill(1, field, 1), -2);
        }
        int[] maps = {0, 3, -1, 99, 100, Integer.MAX_VALUE, Integer.MIN_VALUE};
        for (int map : maps) {
            Check.due("fill(" + map + ", 4, 1)", x.fill(map, 4, 1), -2);
        }
        Check.due("fill of another map's field", x.fill(2, 4, 1), -2);
        Check.due("what was edited stays", Check.octets(x, 3), "12 ");
        Check.due("octet(3)", x.octet(3), Run.THROWS);
        Check.due("another edition", Check.read(x, "M 1 1 9"), 1);
        Check.due("a field of an edition before", x.fill(1, 4, 7), -2);
        Check.due("what was edited stays", Check.octets(x, 3), "12 ");
    }

    /** How often it occurs, what it shows, its attributes, group and marks are nothing to an edited number. */
    private static void attributesAndMarksLeaveItAlone() {
        for (int a = 0; a <= 15; a++) {
            Run x = Check.withText("M 1 1 80\nF 1 1 1 4 " + a + "\nO 3\nG 1\nV 3\nC\nI ABCD");
            Check.due("fill()", x.fill(1, 1, -12), 4);
            Check.due("octets", Check.octets(x, 4), "-12 ");
            Check.due("the screen is as at first", x.screen(1, 1, 2), a >= 8 ? 32 : 'A');
        }
    }
}
