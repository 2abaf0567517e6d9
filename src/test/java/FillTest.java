/** Promise 8: what fill() edits, read by octet(). */
public final class FillTest {
    public static void main(String[] args) {
        withoutPicture();
        toTheRight();
        noughts();
        decimals();
        edges();
        missing();
        Check.end();
    }

    private static void edit(int length, String picture, int v, String want) {
        MapText x = Check.withText("M 1 1 80\nF 1 1 1 " + length + " 0\n" + picture);
        String call = "fill(1, 1, " + v + ") of length " + length + ", " + picture;
        int count = x.fill(1, 1, v);
        Check.due(call, count, length);
        Check.due(call, Check.octets(x, count), want);
        Check.due("octet() behind the last", Check.octet(x, count), 1000);
    }

    private static void withoutPicture() {
        edit(5, "", 0, "0    ");
        edit(5, "", 42, "42   ");
        edit(5, "", -42, "-42  ");
        edit(5, "", -1234, "-1234");
        edit(5, "", -12345, "12345");
        edit(5, "", 1234567, "34567");
        edit(5, "", 1000045, "00045");
        edit(1, "", -7, "7");
        edit(1, "", 0, "0");
        edit(5, "P 0 0 0", -42, "-42  ");
    }

    private static void toTheRight() {
        edit(5, "P 0 1 0", 0, "    0");
        edit(5, "P 0 1 0", 42, "   42");
        edit(5, "P 0 1 0", -42, "  -42");
        edit(5, "P 0 1 0", -1234, "-1234");
        edit(5, "P 0 1 0", -12345, "12345");
    }

    private static void noughts() {
        for (int j = 0; j <= 1; j++) {
            String picture = "P 0 " + j + " 1";
            edit(5, picture, 0, "00000");
            edit(5, picture, 42, "00042");
            edit(5, picture, -42, "-0042");
            edit(5, picture, -1234, "-1234");
            edit(5, picture, -12345, "12345");
            edit(5, picture, -1002345, "-2345");
            edit(1, picture, -10, "-");
        }
    }

    private static void decimals() {
        edit(6, "P 2 1 0", 0, "  0.00");
        edit(6, "P 2 1 0", 5, "  0.05");
        edit(6, "P 2 1 0", -5, " -0.05");
        edit(6, "P 2 0 0", -5, "-0.05 ");
        edit(6, "P 2 0 0", 12, "0.12  ");
        edit(6, "P 2 1 0", 12345, "123.45");
        edit(6, "P 2 1 0", -1234, "-12.34");
        edit(6, "P 2 1 0", -12345, "123.45");
        edit(6, "P 2 1 0", 1234567, "345.67");
        edit(6, "P 2 1 1", 5, "000.05");
        edit(6, "P 2 0 1", -5, "-00.05");
        edit(6, "P 2 0 1", -12345, "123.45");
        edit(4, "P 2 1 0", -5, "0.05");
        edit(4, "P 2 1 1", -5, "-.05");
        edit(3, "P 2 1 0", -5, ".05");
        edit(3, "P 2 1 1", -5, ".05");
        edit(2, "P 1 0 0", 78, ".8");
        edit(10, "P 9 1 0", 7, ".000000007");
        edit(12, "P 9 1 0", -7, "-0.000000007");
    }

    private static void edges() {
        edit(12, "P 0 1 0", Integer.MIN_VALUE, " -2147483648");
        edit(12, "", Integer.MAX_VALUE, "2147483647  ");
        edit(12, "P 9 1 1", Integer.MIN_VALUE, "-2.147483648");
        edit(11, "P 9 1 1", Integer.MIN_VALUE, "2.147483648");
        edit(79, "P 0 0 1", -1, "-" + "0".repeat(77) + "1");
    }

    private static void missing() {
        MapText x = Check.withText("M 1 1 80\nF 0 1 1 3 0\nF 4 1 10 3 0\nM 2 1 80");
        Check.due("fill(1, 4, 12)", x.fill(1, 4, 12), 3);
        int[] none = {0, 1, 3, -4, 100};
        for (int field : none) {
            Check.due("fill(1, " + field + ", 1)", x.fill(1, field, 1), -2);
        }
        Check.due("fill of another map", x.fill(2, 4, 1), -2);
        Check.due("fill of no map", x.fill(3, 4, 1), -2);
        Check.due("what was edited stays", Check.octets(x, 3), "12 ");
    }
}
