/** What the tests share: a text into an object, an answer against the one that is due, the end. */
final class Check {
    private static int wrong = 0;

    private Check() {
    }

    static void due(String call, long got, long want) {
        if (got != want) {
            wrong++;
            System.out.println(call + " answered " + got + ", due is " + want);
        }
    }

    static void due(String call, String got, String want) {
        if (!got.equals(want)) {
            wrong++;
            System.out.println(call + " answered '" + got + "', due is '" + want + "'");
        }
    }

    /** A text in fours, as sign() takes them; the last one filled with bytes that are left out. */
    static int[] fours(String text) {
        int[] all = new int[(text.length() + 3) / 4];
        for (int i = 0; i < all.length * 4; i++) {
            all[i / 4] = all[i / 4] << 8 | (i < text.length() ? text.charAt(i) : 0);
        }
        return all;
    }

    static void put(MapText x, String text) {
        for (int c : fours(text)) {
            x.sign(c);
        }
    }

    static int read(MapText x, String text) {
        put(x, text);
        return x.read();
    }

    static MapText withText(String text) {
        MapText x = new MapText();
        if (read(x, text) < 0) {
            wrong++;
            System.out.println("fault " + x.told(0) + " in line " + x.told(1) + " of " + text);
        }
        return x;
    }

    /** The text has this fault in its last line. */
    static void faultInLastLine(String text, int fault) {
        MapText x = new MapText();
        int line = text.split("\n", -1).length;
        String shown = text.replace("\n", "|");
        due("read() of " + shown, read(x, text), -1 - line);
        due("told(0) of " + shown, x.told(0), fault);
        due("told(1) of " + shown, x.told(1), line);
        due("told(2) of " + shown, x.told(2), 0);
    }

    static void noFault(String text) {
        MapText x = new MapText();
        put(x, text);
        x.read();
        due("told(0) of " + text.replace("\n", "|"), x.told(0), 0);
        due("told(2) of " + text.replace("\n", "|"), x.told(2), 1);
    }

    /** octet()'s byte, or 1000 when it throws as the document says. */
    static int octet(MapText x, int i) {
        try {
            return x.octet(i);
        } catch (ArrayIndexOutOfBoundsException e) {
            due("the machine threw in octet(" + i + ") (1 yes, 0 no)", e.getMessage() == null ? 0 : 1, 0);
            return 1000;
        }
    }

    static String octets(MapText x, int count) {
        StringBuilder all = new StringBuilder();
        for (int i = 0; i < count; i++) {
            all.append((char) octet(x, i));
        }
        return all.toString();
    }

    static void end() {
        System.out.println(wrong == 0 ? "all answers are as due" : wrong + " answers are not as due");
        if (wrong != 0) {
            System.exit(1);
        }
    }
}
