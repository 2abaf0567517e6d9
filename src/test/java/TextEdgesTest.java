/** Terms: the TEXT, its LINES, words and the form of numbers. */
public final class TextEdgesTest {
    private static final String FIELD = "M 1 3 80\nF 1 1 1 4 0\n";

    /** A good line of each word, with what it stands behind. */
    private static final String[][] LINES = {{"", "M 1 3 80"}, {"M 1 3 80\n", "F 1 1 1 4 0"}, {FIELD, "O 2"},
        {FIELD, "G 2"}, {FIELD, "P 1 1 1"}, {FIELD, "V 1"}, {FIELD, "C"}};

    public static void main(String[] args) {
        lastLineMayStandWithoutItsEnd();
        linesAreNumberedFromOneOn();
        lineOfBlanksAlone();
        starFirstBehindBlanks();
        wordIsOneSign();
        anotherWord();
        moreOrFewerNumbers();
        oneToThreeDigits();
        blanksAheadOfEachNumber();
        blanksAheadAndBehind();
        anotherSign();
        textBehindOneBlank();
        Check.end();
    }

    /** "10, which ends a LINE (the last one may stand without)". */
    private static void lastLineMayStandWithoutItsEnd() {
        for (String[] line : LINES) {
            Edges.taken(line[0] + line[1]);
            Edges.taken(line[0] + line[1] + "\n");
            Edges.taken(line[0] + line[1] + "\n\n");
        }
        Edges.taken(FIELD + "I AB");
        Edges.taken(FIELD + "I AB\n");
        Edges.taken("");
        Edges.taken("\n");
        Edges.refused("Q", 1);
        Run x = new Run();
        Check.due("a fault in a last line with its end", Check.read(x, "Q\n"), -2);
    }

    /** "LINES are numbered from 1 on": up to the highest number that 512 calls can make. */
    private static void linesAreNumberedFromOneOn() {
        for (int line = 1; line <= 5; line++) {
            Edges.refused("\n".repeat(line - 1) + "Q", 1);
            Edges.refused(" * Q\n".repeat(line - 1) + "Q", 1);
        }
        Run x = new Run();
        Check.due("line 2032", Check.read(x, "\n".repeat(2031) + "Q"), -2033);
        Check.due("told(1)", x.told(1), 2032);
        Check.due("told(0)", x.told(0), 1);
        Run y = new Run();
        Check.due("the first of two faults", Check.read(y, "\nQ\nQ"), -3);
        Check.due("told(1)", y.told(1), 2);
    }

    /** "A LINE of blanks alone ... says nothing". */
    private static void lineOfBlanksAlone() {
        int[] blanks = {0, 1, 2, 80, 81, 300};
        for (int count : blanks) {
            Edges.taken(" ".repeat(count));
            Edges.taken(FIELD + " ".repeat(count) + "\nO 2");
        }
    }

    /** "or whose first sign behind blanks is * , says nothing". */
    private static void starFirstBehindBlanks() {
        String[] nothing = {"*", " *", "     *", "*M 9 1 1", "* Q", "**", "*" + "~".repeat(200), "* *"};
        for (String line : nothing) {
            Edges.taken(line);
            Edges.taken(FIELD + line + "\nC");
        }
        String[] wrong = {"M 2 1 1 *", "M * 1 1", "M*", "F 2 2 1 1 0*", "O 2 *", "C *", "C*", "-*", "+ *", ") *"};
        for (String line : wrong) {
            Edges.refused(FIELD + line, 1);
        }
        Run x = Check.withText("*M 9 1 1\n *M 8 1 1");
        Check.due("no map", x.told(3), 0);
    }

    /** "a WORD, one sign". */
    private static void wordIsOneSign() {
        for (String[] line : LINES) {
            Edges.refused(line[0] + line[1].charAt(0) + line[1], 1);
            Edges.refused(line[0] + line[1].charAt(0) + " " + line[1], 1);
            Edges.refused(line[0] + line[1] + line[1].charAt(0), 1);
            Edges.refused(line[0] + "1 " + line[1], 1);
            Edges.refused(line[0] + line[1].toLowerCase(), 1);
        }
        Edges.refused(FIELD + "II A", 1);
    }

    /** "another word": every sign that is none, with as many numbers as any word has. */
    private static void anotherWord() {
        for (char word = '!'; word <= '~'; word++) {
            if ("MFOGPVCI*".indexOf(word) < 0) {
                Edges.refused(FIELD + word, 1);
                Edges.refused(FIELD + word + " 1", 1);
                Edges.refused(FIELD + word + " 1 1 1", 1);
                Edges.refused(FIELD + word + " 2 2 1 1 1", 1);
            }
        }
    }

    /** "more or fewer numbers": one fewer, as many, one more, and many more. */
    private static void moreOrFewerNumbers() {
        for (String[] line : LINES) {
            int due = line[1].split(" ").length - 1;
            String some = line[0] + line[1].charAt(0);
            for (int count = 0; count < due; count++) {
                Edges.refused(some + " 1".repeat(count), 1);
            }
            Edges.taken(line[0] + line[1]);
            for (int count = 1; count <= 7; count++) {
                Edges.refused(line[0] + line[1] + " 1".repeat(count), 1);
            }
            Edges.refused(line[0] + line[1] + " 0".repeat(150), 1);
        }
    }

    /** "numbers of 1 to 3 digits"; "a number of more digits". */
    private static void oneToThreeDigits() {
        for (String[] line : LINES) {
            String[] parts = line[1].split(" ");
            for (int which = 1; which < parts.length; which++) {
                String number = parts[which];
                for (int digits = number.length(); digits <= 5; digits++) {
                    parts[which] = "0".repeat(digits - number.length()) + number;
                    String text = line[0] + String.join(" ", parts);
                    if (digits <= 3) {
                        Edges.taken(text);
                    } else {
                        Edges.refused(text, 1);
                    }
                }
                parts[which] = "999";
                Edges.refused(line[0] + String.join(" ", parts), 3);
                parts[which] = "1000";
                Edges.refused(line[0] + String.join(" ", parts), 1);
                parts[which] = "4294967297";
                Edges.refused(line[0] + String.join(" ", parts), 1);
                parts[which] = number;
            }
        }
    }

    /** "with blanks ahead of each": none is too few, one or more are fine. */
    private static void blanksAheadOfEachNumber() {
        for (String[] line : LINES) {
            String[] parts = line[1].split(" ");
            for (int which = 1; which < parts.length; which++) {
                String number = parts[which];
                parts[which] = "      " + number;
                Edges.taken(line[0] + String.join(" ", parts));
                parts[which] = number;
                String ahead = String.join(" ", java.util.Arrays.copyOf(parts, which));
                String behind = String.join(" ", java.util.Arrays.copyOfRange(parts, which, parts.length));
                Edges.refused(line[0] + ahead + behind, 1);
            }
        }
    }

    /** "blanks may stand ahead and behind, too". */
    private static void blanksAheadAndBehind() {
        int[] counts = {1, 2, 90};
        for (String[] line : LINES) {
            for (int count : counts) {
                String blanks = " ".repeat(count);
                Edges.taken(line[0] + blanks + line[1]);
                Edges.taken(line[0] + line[1] + blanks);
                Edges.taken(line[0] + blanks + line[1] + blanks + "\n");
            }
        }
        Edges.taken(FIELD + "   I AB");
    }

    /** "another sign": just below and above the digits, signs of numbers, words, in and behind a number. */
    private static void anotherSign() {
        char[] others = {'/', ':', '-', '+', '.', ',', 'A', 'M', 'x', '!', '~', '*', '_'};
        for (String[] line : LINES) {
            for (char other : others) {
                Edges.refused(line[0] + line[1] + other, 1);
                Edges.refused(line[0] + line[1] + " " + other, 1);
                Edges.refused(line[0] + line[1].charAt(0) + " " + other + line[1].substring(1).trim(), 1);
                if (line[1].length() > 2) {
                    Edges.refused(line[0] + line[1].replaceFirst("[0-9]", "\\" + other), 1);
                }
            }
        }
    }

    /** "I and one blank, then up to l signs"; "a longer TEXT, or none". */
    private static void textBehindOneBlank() {
        int[] lengths = {1, 2, 79};
        for (int length : lengths) {
            String field = "M 1 1 80\nF 1 1 1 " + length + " 0\n";
            Edges.refused(field + "I", 1);
            Edges.refused(field + "I ", 1);
            Edges.refused(field + "  I ", 1);
            Edges.refused(field + "IA", 1);
            Edges.refused(field + "I*", 1);
            Edges.refused(field + "I1 A", 1);
            for (int signs = 1; signs <= length; signs += Math.max(1, length - 2)) {
                Edges.taken(field + "I " + "~".repeat(signs));
                Edges.taken(field + "I " + " ".repeat(signs));
                Edges.taken(field + "I " + "*".repeat(signs));
                Edges.taken(field + " I " + "I".repeat(signs));
            }
            Edges.taken(field + "I " + "~".repeat(length));
            Edges.refused(field + "I " + "~".repeat(length + 1), 1);
            Edges.refused(field + "I " + " ".repeat(length + 1), 1);
            Edges.refused(field + "I " + "~".repeat(length) + " ", 1);
            Edges.refused(field + "I  " + "~".repeat(length), 1);
            Edges.refused(field + "I " + "~".repeat(200), 1);
        }
        Edges.refused("M 1 1 80\nF 0 1 1 0 0\nI A", 1);
        Edges.refused("M 1 1 80\nF 0 1 1 0 0\nI  ", 1);
        Edges.refused("M 1 1 80\nF 0 1 1 0 0\nI", 1);
        Edges.taken("M 1 1 80\nF 0 1 1 1 0\nI A");
    }
}
