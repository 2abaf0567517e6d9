/** What the tests share: a text into an object, an answer against the one that is due, the end. */
final class Check {
    private static int wrong = 0;

    private Check() {
    }

    static void due(String call, long got, long want) {
        if (got != want) {
            wrong++;
            System.out.println(call + " answered " + got + ", due is " + want);
        }
    }

    static void due(String call, String got, String want) {
        if (!got.equals(want)) {
            wrong++;
            System.out.println(call + " answered '" + got + "', due is '" + want + "'");
        }
    }

    /** A text in fours, as sign() takes them; the last one filled with bytes that are left out. */
    static int[] fours(String text) {
        int[] all = new int[(text.length() + 3) / 4];
        for (int i = 0; i < all.length * 4; i++) {
            all[i / 4] = all[i / 4] << 8 | (i < text.length() ? text.charAt(i) : 0);
        }
        return all;
    }

    static void put(Run x, String text) {
        for (int c : fours(text)) {
            x.sign(c);
        }
    }

    static int read(Run x, String text) {
        put(x, text);
        return x.read();
    }

    static Run withText(String text) {
        Run x = new Run();
        if (read(x, text) < 0) {
            wrong++;
            System.out.println("fault " + x.told(0) + " in line " + x.told(1) + " of " + text);
        }
        return x;
    }

    /** Maps 1 to that count, each of one place. */
    static String maps(int count) {
        StringBuilder all = new StringBuilder();
        for (int n = 1; n <= count; n++) {
            all.append("M ").append(n).append(" 1 1\n");
        }
        return all.toString();
    }

    static String octets(Run x, int count) {
        StringBuilder all = new StringBuilder();
        for (int i = 0; i < count; i++) {
            all.append((char) x.octet(i));
        }
        return all.toString();
    }

    static void end() {
        System.out.println(wrong == 0 ? "all answers are as due" : wrong + " answers are not as due");
        if (wrong != 0) {
            System.exit(1);
        }
    }
}
