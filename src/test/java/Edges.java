/**
 * Texts at the edge of what is told, read by an object that has much to lose: two editions, a number edited, bytes
 * that came in. A refused one must leave all that as it was, and a good one behind it must be taken.
 */
final class Edges {
    private static final String AT_HAND =
        "M 50 2 9\nF 3 1 1 2 2\nO 2\nG 7\nP 1 1 0\nV 1\nC\nI AB\nF 0 2 1 1 0\nI Z";

    private Edges() {
    }

    static Run busy() {
        Run x = Check.withText("M 50 1 4\nF 3 1 1 2 0");
        Check.due("the edition at hand", Check.read(x, AT_HAND), 1);
        Check.due("a number", x.fill(50, 3, -47), 2);
        for (int i = 0; i < 3; i++) {
            x.take(50, i);
        }
        return x;
    }

    /** All that busy() answers but the latest read()'s fault and overlap, and the text. */
    static String answers(Run x) {
        StringBuilder all = new StringBuilder();
        for (int i = 0; i < 3; i++) {
            for (int what = 0; what < 10; what++) {
                all.append(x.field(50, i, what)).append(' ');
            }
        }
        for (int what = 0; what < 4; what++) {
            all.append(x.layout(50, 3, what)).append(' ');
        }
        all.append(x.layout(50, 0, 0)).append('|');
        for (int at = 0; at < 18; at++) {
            all.append((char) x.screen(50, 1 + at / 9, 1 + at % 9));
        }
        all.append('|').append(x.octet(0)).append(' ').append(x.octet(1)).append(' ').append(x.octet(2));
        for (int edition = 1; edition <= 2; edition++) {
            all.append(' ').append(x.differ(edition)).append(' ').append(x.program(50, edition));
        }
        all.append(' ').append(x.group(50, 3));
        return all.append(' ').append(x.told(2)).append(x.told(3)).append(x.told(5)).toString();
    }

    static void refused(String text, int fault) {
        refused(text, fault, -1, -1);
    }

    /** The text has this fault in its last line, and overlap() tells of these two. */
    static void refused(String text, int fault, int earlier, int newer) {
        Run x = busy();
        String before = answers(x);
        String of = " of " + text.replace("\n", "|");
        int line = text.split("\n", -1).length;
        Check.due("read()" + of, Check.read(x, text), -1 - line);
        Check.due("told(0)" + of, x.told(0), fault);
        Check.due("told(1)" + of, x.told(1), line);
        Check.due("told(4)" + of, x.told(4), 0);
        Check.due("overlap(0, 0)" + of, x.overlap(0, 0), earlier);
        Check.due("overlap(0, 1)" + of, x.overlap(0, 1), newer);
        Check.due("all else behind read()" + of, answers(x), before);
        Check.due("read() of a good text behind that" + of, Check.read(x, "M 1 1 1"), 1);
        noFaultTold(x, of, 1);
    }

    static void taken(String text) {
        Run x = busy();
        String of = " of " + text.replace("\n", "|");
        int maps = 0;
        for (String line : text.split("\n")) {
            maps += line.trim().startsWith("M") ? 1 : 0;
        }
        Check.due("read()" + of, Check.read(x, text), maps);
        noFaultTold(x, of, maps);
        Check.due("octets" + of, Check.octets(x, 2), ".7");
    }

    private static void noFaultTold(Run x, String of, int maps) {
        int[] told = {0, 0, 3, maps, 0, 0};
        for (int what = 0; what < told.length; what++) {
            Check.due("told(" + what + ") without fault" + of, x.told(what), told[what]);
        }
        Check.due("overlap(0, 0) without fault" + of, x.overlap(0, 0), -1);
        Check.due("overlap(0, 1) without fault" + of, x.overlap(0, 1), -1);
        Check.due("the map before, without fault" + of, x.field(50, 0, 0), -1);
    }
}
