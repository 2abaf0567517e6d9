/** Promise 10. */
public final class TakeTest {
    public static void main(String[] args) {
        noFields();
        counts();
        marks();
        numeric();
        times();
        startsAnew();
        Check.end();
    }

    /** Takes twelve bytes, then these; answers what the last one does. */
    private static int takeAll(MapText x, int map, int... bytes) {
        for (int i = 0; i < 12; i++) {
            if (i + 1 < 12 + bytes.length) {
                Check.due("a byte of the first 12", x.take(map, (byte) 255), -1);
                Check.due("told(5)", x.told(5), i + 1);
            }
        }
        int answer = -1;
        for (int i = 0; i < bytes.length; i++) {
            answer = x.take(map, (byte) bytes[i]);
            if (i + 1 < bytes.length) {
                Check.due("byte " + i, answer, -1);
                Check.due("told(5)", x.told(5), i + 13);
            }
        }
        Check.due("told(5) behind the last byte", x.told(5), 0);
        return answer;
    }

    private static void noFields() {
        MapText x = Check.withText("M 1 1 9\nF 0 1 1 3 0");
        for (int round = 0; round < 2; round++) {
            for (int i = 1; i < 12; i++) {
                Check.due("take(1, 0)", x.take(1, (byte) 0), -1);
            }
            Check.due("the twelfth", x.take(1, (byte) 0), 0);
            Check.due("told(5)", x.told(5), 0);
        }
        Check.due("no such map", x.take(2, (byte) 0), -2);
        Check.due("no such map", x.take(0, (byte) 0), -2);
        Check.due("no such map", x.take(-1, (byte) 0), -2);
    }

    private static void good(String field, int want, int... bytes) {
        MapText x = Check.withText("M 1 3 9\nF 0 1 1 3 0\n" + field);
        Check.due("good of " + field + java.util.Arrays.toString(bytes), takeAll(x, 1, bytes), want);
    }

    private static void counts() {
        String field = "F 1 2 1 2 13";
        good(field, 1, 0, 0, 0, 0, 0);
        good(field, 1, 0, 1, 99, 0, 0);
        good(field, 1, 0, 2, 0, 0, 255);
        good(field, 0, 0, 3, 0, 0, 0);
        good(field, 0, 1, 0, 0, 0, 0);
        good(field, 0, 1, 1, 0, 0, 0);
        good(field, 0, 0, 255, 0, 0, 0);
        good(field, 0, 255, 255, 0, 0, 0);
        good(field, 0, 128, 0, 0, 0, 0);
    }

    private static void marks() {
        String field = "F 1 2 1 3 0\nV ";
        int[][] good = {{0, 1, 1, 1}, {1, 0, 0, 1}, {0, 0, 0, 1}};
        for (int mark = 1; mark <= 3; mark++) {
            for (int n = 0; n <= 3; n++) {
                good(field + mark, good[mark - 1][n], 0, n, 0, 0, 0, 0);
            }
            good(field + mark, 0, 0, 4, 0, 0, 0, 0);
        }
    }

    private static void numeric() {
        String field = "F 1 2 1 2 2";
        good(field, 1, 0, 2, 0, '0', '9');
        good(field, 0, 0, 2, 0, '0', '9' + 1);
        good(field, 0, 0, 2, 0, '0' - 1, '9');
        good(field, 1, 0, 1, 0, '5', 'A');
        good(field, 0, 0, 1, 0, 'A', '5');
        good(field, 1, 0, 0, 'A', 'A', 'A');
        good(field, 0, 0, 2, 0, 200, '9');
        good("F 1 2 1 2 13", 1, 0, 2, 2, 'A', 'B');
        good("F 1 2 1 2 3\nV 3", 0, 0, 1, 0, '1', '1');
    }

    private static void times() {
        MapText x = Check.withText("M 1 3 9\nF 7 1 1 1 2\nO 3\nV 1\nF 0 2 1 3 0\nF 3 3 1 2 0\nV 2");
        int[] bytes = {0, 1, 0, '1', 0, 0, 0, '1', 0, 1, 0, 'x', 0, 0, 0, 0, 0};
        Check.due("one time and a field", takeAll(x, 1, bytes), 2);
        bytes[5] = 1;
        Check.due("two times and a field", takeAll(x, 1, bytes), 3);
        bytes[11] = '0';
        Check.due("all", takeAll(x, 1, bytes), 4);
        bytes[13] = 1;
        Check.due("three times", takeAll(x, 1, bytes), 3);
        MapText y = Check.withText("M 1 3 9\nF 1 1 1 1 0\nO 2\nF 2 2 1 2 2\nO 3\nF 3 3 1 1 0\nV 1");
        int[] more = {0, 1, 0, 'a', 0, 2, 0, 'a', 0, 2, 0, '1', '2', 0, 1, 0, '1', 'x', 0, 2, 0, '1', 'x', 0, 1, 0, 'a'};
        Check.due("fields that occur behind one another", takeAll(y, 1, more), 4);
        more[24] = 0;
        Check.due("the last one isn't good", takeAll(y, 1, more), 3);
        MapText z = Check.withText("M 1 3 9\nF 1 1 1 1 0\nO 2\nM 2 3 9\nF 1 1 1 1 0\nO 2");
        for (int i = 0; i < 17; i++) {
            z.take(1, (byte) 0);
        }
        Check.due("another map, amid the second time", takeAll(z, 2, 0, 0, 0, 0, 0, 9, 0, 0), 1);
    }

    private static void startsAnew() {
        MapText x = Check.withText("M 1 3 9\nF 7 1 1 1 0\nM 2 3 9\nF 7 1 1 1 0");
        for (int i = 0; i < 5; i++) {
            x.take(1, (byte) 0);
        }
        Check.due("told(5)", x.told(5), 5);
        Check.due("no such map", x.take(3, (byte) 0), -2);
        Check.due("it goes on", x.take(1, (byte) 0), -1);
        Check.due("told(5)", x.told(5), 6);
        Check.due("another map", x.take(2, (byte) 0), -1);
        Check.due("told(5) of another map", x.told(5), 1);
        Check.due("the first one begins anew", x.take(1, (byte) 0), -1);
        Check.due("told(5)", x.told(5), 1);
        Check.read(x, "Q");
        Check.due("a fault is no other edition", x.take(1, (byte) 0), -1);
        Check.due("told(5)", x.told(5), 2);
        Check.read(x, "M 1 3 9\nF 7 1 1 1 0");
        Check.due("told(5) of another edition", x.told(5), 0);
        Check.due("the whole of the new edition", takeAll(x, 1, 0, 1, 0, 0), 1);
        for (int i = 0; i < 15; i++) {
            x.take(1, (byte) 0);
        }
        Check.read(x, "M 1 3 9\nF 7 1 1 1 0");
        Check.due("no last byte in another edition", x.take(1, (byte) 0), -1);
        Check.due("told(5)", x.told(5), 1);
    }
}
