/** Promise 10. */
public final class TakeTest {
    public static void main(String[] args) {
        noFields();
        counts();
        marks();
        numeric();
        times();
        startsAnew();
        longestField();
        highestByteFirst();
        attributesByteIsFree();
        anotherMapAtEachByte();
        anotherEditionAtEachByte();
        refusedCallsAtEachByte();
        noSuchMap();
        withSixEditions();
        manyFields();
        Check.end();
    }

    /** Takes twelve bytes, then these; answers what the last one does. */
    private static int takeAll(Run x, int map, int... bytes) {
        for (int i = 0; i < 12; i++) {
            if (i + 1 < 12 + bytes.length) {
                Check.due("a byte of the first 12", x.take(map, 255), -1);
                Check.due("told(5)", x.told(5), i + 1);
            }
        }
        int answer = -1;
        for (int i = 0; i < bytes.length; i++) {
            answer = x.take(map, bytes[i]);
            if (i + 1 < bytes.length) {
                Check.due("byte " + i, answer, -1);
                Check.due("told(5)", x.told(5), i + 13);
            }
        }
        Check.due("told(5) behind the last byte", x.told(5), 0);
        return answer;
    }

    private static void noFields() {
        Run x = Check.withText("M 1 1 9\nF 0 1 1 3 0");
        for (int round = 0; round < 2; round++) {
            for (int i = 1; i < 12; i++) {
                Check.due("take(1, 0)", x.take(1, 0), -1);
            }
            Check.due("the twelfth", x.take(1, 0), 0);
            Check.due("told(5)", x.told(5), 0);
        }
        Check.due("no such map", x.take(2, 0), -2);
        Check.due("no such map", x.take(0, 0), -2);
        Check.due("no such map", x.take(-1, (byte) 0), -2);
    }

    private static void good(String field, int want, int... bytes) {
        Run x = Check.withText("M 1 3 9\nF 0 1 1 3 0\n" + field);
        Check.due("good of " + field + java.util.Arrays.toString(bytes), takeAll(x, 1, bytes), want);
    }

    private static void counts() {
        String field = "F 1 2 1 2 13";
        good(field, 1, 0, 0, 0, 0, 0);
        good(field, 1, 0, 1, 99, 0, 0);
        good(field, 1, 0, 2, 0, 0, 255);
        good(field, 0, 0, 3, 0, 0, 0);
        good(field, 0, 1, 0, 0, 0, 0);
        good(field, 0, 1, 1, 0, 0, 0);
        good(field, 0, 0, 255, 0, 0, 0);
        good(field, 0, 255, 255, 0, 0, 0);
        good(field, 0, 128, 0, 0, 0, 0);
    }

    private static void marks() {
        String field = "F 1 2 1 3 0\nV ";
        int[][] good = {{0, 1, 1, 1}, {1, 0, 0, 1}, {0, 0, 0, 1}};
        for (int mark = 1; mark <= 3; mark++) {
            for (int n = 0; n <= 3; n++) {
                good(field + mark, good[mark - 1][n], 0, n, 0, 0, 0, 0);
            }
            good(field + mark, 0, 0, 4, 0, 0, 0, 0);
        }
    }

    private static void numeric() {
        String field = "F 1 2 1 2 2";
        good(field, 1, 0, 2, 0, '0', '9');
        good(field, 0, 0, 2, 0, '0', '9' + 1);
        good(field, 0, 0, 2, 0, '0' - 1, '9');
        good(field, 1, 0, 1, 0, '5', 'A');
        good(field, 0, 0, 1, 0, 'A', '5');
        good(field, 1, 0, 0, 'A', 'A', 'A');
        good(field, 0, 0, 2, 0, 200, '9');
        good("F 1 2 1 2 13", 1, 0, 2, 2, 'A', 'B');
        good("F 1 2 1 2 3\nV 3", 0, 0, 1, 0, '1', '1');
    }

    private static void times() {
        Run x = Check.withText("M 1 3 9\nF 7 1 1 1 2\nO 3\nV 1\nF 0 2 1 3 0\nF 3 3 1 2 0\nV 2");
        int[] bytes = {0, 1, 0, '1', 0, 0, 0, '1', 0, 1, 0, 'x', 0, 0, 0, 0, 0};
        Check.due("one time and a field", takeAll(x, 1, bytes), 2);
        bytes[5] = 1;
        Check.due("two times and a field", takeAll(x, 1, bytes), 3);
        bytes[11] = '0';
        Check.due("all", takeAll(x, 1, bytes), 4);
        bytes[13] = 1;
        Check.due("three times", takeAll(x, 1, bytes), 3);
        Run y = Check.withText("M 1 3 9\nF 1 1 1 1 0\nO 2\nF 2 2 1 2 2\nO 3\nF 3 3 1 1 0\nV 1");
        int[] more = {0, 1, 0, 'a', 0, 2, 0, 'a', 0, 2, 0, '1', '2', 0, 1, 0, '1', 'x', 0, 2, 0, '1', 'x', 0, 1, 0, 'a'};
        Check.due("fields that occur behind one another", takeAll(y, 1, more), 4);
        more[24] = 0;
        Check.due("the last one isn't good", takeAll(y, 1, more), 3);
        Run z = Check.withText("M 1 3 9\nF 1 1 1 1 0\nO 2\nM 2 3 9\nF 1 1 1 1 0\nO 2");
        for (int i = 0; i < 17; i++) {
            z.take(1, 0);
        }
        Check.due("another map, amid the second time", takeAll(z, 2, 0, 0, 0, 0, 0, 0, 0, 0), 2);
        Check.due("and a second time that isn't good", takeAll(z, 2, 0, 0, 0, 0, 0, 9, 0, 0), 1);
    }

    private static void startsAnew() {
        Run x = Check.withText("M 1 3 9\nF 7 1 1 1 0\nM 2 3 9\nF 7 1 1 1 0");
        for (int i = 0; i < 5; i++) {
            x.take(1, 0);
        }
        Check.due("told(5)", x.told(5), 5);
        Check.due("no such map", x.take(3, 0), -2);
        Check.due("it goes on", x.take(1, 0), -1);
        Check.due("told(5)", x.told(5), 6);
        Check.due("another map", x.take(2, 0), -1);
        Check.due("told(5) of another map", x.told(5), 1);
        Check.due("the first one begins anew", x.take(1, 0), -1);
        Check.due("told(5)", x.told(5), 1);
        Check.read(x, "Q");
        Check.due("a fault is no other edition", x.take(1, 0), -1);
        Check.due("told(5)", x.told(5), 2);
        Check.read(x, "M 1 3 9\nF 7 1 1 1 0");
        Check.due("told(5) of another edition", x.told(5), 0);
        Check.due("the whole of the new edition", takeAll(x, 1, 0, 1, 0, 0), 1);
        for (int i = 0; i < 15; i++) {
            x.take(1, 0);
        }
        Check.read(x, "M 1 3 9\nF 7 1 1 1 0");
        Check.due("no last byte in another edition", x.take(1, 0), -1);
        Check.due("told(5)", x.told(5), 1);
    }

    /** n of 0, 1, l - 1, l, l + 1 for the least and the greatest l, with each mark. */
    private static void longestField() {
        int[] lengths = {1, 2, 78, 79};
        for (int l : lengths) {
            for (int mark = 0; mark <= 3; mark++) {
                int[] counts = {0, 1, l - 1, l, l + 1, 80, 127, 128, 255};
                for (int n : counts) {
                    boolean good = n <= l && (n > 0 || (mark & 1) == 0) && (n == 0 || n == l || (mark & 2) == 0);
                    Run x = Check.withText("M 1 1 80\nF 1 1 1 " + l + " 2" + (mark == 0 ? "" : "\nV " + mark));
                    int[] bytes = new int[3 + l];
                    java.util.Arrays.fill(bytes, '8');
                    bytes[0] = 0;
                    bytes[1] = n;
                    Check.due("n " + n + " of " + l + ", marks " + mark, takeAll(x, 1, bytes), good ? 1 : 0);
                }
            }
        }
    }

    /** "their two bytes say n ... (the highest first)", as numbers of 0 .. 65535. */
    private static void highestByteFirst() {
        for (int high = 0; high <= 255; high += 51) {
            for (int low = 0; low <= 4; low++) {
                good("F 1 2 1 3 0", high == 0 && low <= 3 ? 1 : 0, high, low, 0, 0, 0, 0);
            }
        }
        good("F 1 2 1 3 0", 0, 2, 0, 0, 0, 0, 0);
        good("F 1 2 1 3 0", 0, 0, 0x80, 0, 0, 0, 0);
        good("F 1 2 1 3 0", 0, 0xFF, 0xFF, 0, 0, 0, 0);
    }

    private static void attributesByteIsFree() {
        for (int a = 0; a <= 255; a += 15) {
            good("F 1 2 1 1 2", 1, 0, 1, a, '3');
            good("F 1 2 1 1 0", 1, 0, 1, 0, a);
        }
        for (int b = 0; b <= 255; b++) {
            good("F 1 2 1 1 2", b >= '0' && b <= '9' ? 1 : 0, 0, 1, 0, b);
            good("F 1 2 1 2 2", 1, 0, 1, 0, '0', b);
        }
    }

    /** "another map ...: it begins anew", wherever the map before was; this one's layout has 17 bytes. */
    private static void anotherMapAtEachByte() {
        for (int came = 1; came <= 17; came++) {
            Run x = Check.withText("M 1 1 9\nF 1 1 1 2 0\nM 2 1 9\nF 1 1 1 1 0");
            for (int i = 1; i <= came; i++) {
                Check.due("byte " + i, x.take(1, 0), i == 17 ? 1 : -1);
                Check.due("told(5)", x.told(5), i == 17 ? 0 : i);
            }
            Check.due("good of the other map", takeAll(x, 2, 0, 1, 0, 0), 1);
            Check.due("good of the first map again", takeAll(x, 1, 0, 1, 0, 0, 0), 1);
        }
    }

    /** "or another edition: it begins anew", with the same map in it. */
    private static void anotherEditionAtEachByte() {
        String text = "M 1 1 9\nF 1 1 1 2 0";
        for (int came = 1; came <= 17; came++) {
            Run x = Check.withText(text);
            for (int i = 1; i <= came; i++) {
                x.take(1, 255);
            }
            Check.due("another edition", Check.read(x, text), 1);
            Check.due("told(5)", x.told(5), 0);
            Check.due("good in the other edition", takeAll(x, 1, 0, 1, 0, 0, 0), 1);
        }
    }

    /** A refused take(), read(), fill() or octet() between two bytes changes nothing of what came in. */
    private static void refusedCallsAtEachByte() {
        Run x = Check.withText("M 1 1 9\nF 1 1 1 2 2");
        int[] bytes = {0, 0, 0, 0, 0, 0, 0, 0, 0, 0, 0, 0, 0, 2, 0, '1', '2'};
        for (int i = 0; i < bytes.length; i++) {
            Check.due("no such map", x.take(2, 255), -2);
            Check.due("a fault", Check.read(x, "Q"), -2);
            Check.due("no such field", x.fill(1, 2, 1), -2);
            Check.due("no byte", x.octet(0), Run.THROWS);
            Check.due("told(5)", x.told(5), i);
            Check.due("byte " + i, x.take(1, bytes[i]), i == 16 ? 1 : -1);
        }
        Check.due("told(5)", x.told(5), 0);
    }

    private static void noSuchMap() {
        Run x = new Run();
        Run y = Check.withText("M 2 1 9\nM 99 1 9");
        int[] none = {0, 1, 3, 98, 100, -1, -2, -99, Integer.MAX_VALUE, Integer.MIN_VALUE};
        for (int map : none) {
            Check.due("take(" + map + ") of a new object", x.take(map, 0), -2);
            Check.due("take(" + map + ")", y.take(map, 0), -2);
            Check.due("told(5)", y.told(5), 0);
        }
        Check.due("take(99)", y.take(99, 0), -1);
        Check.due("a map that isn't at hand any more", Check.read(y, "M 2 1 9"), 1);
        Check.due("take(99)", y.take(99, 0), -2);
        Check.due("told(5)", y.told(5), 0);
    }

    private static void withSixEditions() {
        Run x = new Run();
        for (int i = 1; i <= 6; i++) {
            Check.read(x, "M 1 1 9");
        }
        for (int i = 1; i <= 12; i++) {
            Check.due("no other edition", Check.read(x, "M 1 1 9"), -1);
            Check.due("byte " + i, x.take(1, 0), i == 12 ? 0 : -1);
            Check.due("told(5)", x.told(5), i % 12);
        }
    }

    /** "how many fields, each time for itself": 30 fields, and one that occurs 20 times. */
    private static void manyFields() {
        StringBuilder text = new StringBuilder("M 1 1 80\n");
        for (int i = 0; i < 30; i++) {
            text.append("F ").append(i + 1).append(" 1 ").append(1 + 2 * i).append(" 1 0\n");
        }
        Run x = Check.withText(text.toString());
        int last = -1;
        for (int i = 0; i < 132; i++) {
            Check.due("ahead of the last byte", last, -1);
            last = x.take(1, 0);
        }
        Check.due("30 good ones", last, 30);
        Run y = Check.withText("M 1 1 80\nF 1 1 1 1 2\nV 1\nO 20");
        for (int i = 0; i < 92; i++) {
            // Of each four bytes: 0, 1, attributes, and a digit for every other time.
            int b = i < 12 || i % 4 == 0 ? 0 : i % 4 == 1 ? 1 : i % 8 == 7 ? '5' : 'x';
            last = y.take(1, b);
        }
        Check.due("every other one of 20 times", last, 10);
        Check.due("told(5)", y.told(5), 0);
    }
}
