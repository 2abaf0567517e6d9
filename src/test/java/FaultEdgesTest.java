/** Terms: the FAULTS 1 to 5, their order, and how many maps and fields there may be. */
public final class FaultEdgesTest {
    private static final String MAP = "M 1 3 20\n";
    private static final String FIELD = MAP + "F 1 1 1 4 0\n";
    private static final String LABEL = MAP + "F 0 1 1 4 0\n";
    private static final String[] OF_FIELD = {"O 1", "G 1", "P 0 0 0", "V 1", "C", "I A"};

    public static void main(String[] args) {
        belongsToAMap();
        belongsToAField();
        nameIsThereAlready();
        mapIsThereAlready();
        labels();
        again();
        cursorAgain();
        eightMaps();
        thirtyFields();
        faultOneFirst();
        faultTwoAhead();
        faultThreeAhead();
        faultFourAhead();
        faultsOfEarlierTexts();
        Check.end();
    }

    /** A map of that number with fields in its first row, each second one a label. */
    private static String fields(int map, int count) {
        StringBuilder all = new StringBuilder("M " + map + " 2 80\n");
        for (int i = 0; i < count; i++) {
            all.append("F ").append(i % 2 * i).append(" 1 ").append(1 + 2 * i).append(" 1 0\n");
        }
        return all.toString();
    }

    /** "2 no map ... to which it belongs". */
    private static void belongsToAMap() {
        Edges.refused("F 1 1 1 1 0", 2);
        Edges.refused("* M 1 3 20\nF 1 1 1 1 0", 2);
        Edges.taken(MAP + "F 1 1 1 1 0");
        // The maps of the edition at hand are none of this text.
        Edges.refused("F 9 2 4 1 0", 2);
    }

    /** "or no field of it": the latest map's alone. */
    private static void belongsToAField() {
        for (String line : OF_FIELD) {
            Edges.refused(line, 2);
            Edges.refused(MAP + line, 2);
            Edges.refused(FIELD + "M 2 1 9\n" + line, 2);
            Edges.refused(FIELD + line + "\nM 2 1 9\n" + line, 2);
            Edges.taken(FIELD + line);
            Edges.taken(FIELD + "M 2 1 9\nF 1 1 1 1 0\n" + line);
        }
    }

    /** "n is there already (... a field of the map)". */
    private static void nameIsThereAlready() {
        Edges.refused(FIELD + "F 1 2 1 4 0", 4);
        Edges.refused(FIELD + "F 2 2 1 4 0\nF 1 3 1 4 0", 4);
        Edges.refused(FIELD + "F 2 2 1 4 0\nF 2 3 1 4 0", 4);
        Edges.taken(FIELD + "F 2 2 1 4 0\nF 3 3 1 4 0");
        Edges.taken(FIELD + "M 2 3 20\nF 1 2 1 4 0");
        Edges.taken(LABEL + "F 0 2 1 4 0\nF 0 3 1 4 0");
        Edges.refused("M 1 3 20\nF 99 1 1 4 0\nF 99 2 1 4 0", 4);
    }

    /** "n is there already (a map of the text ...)": the edition at hand has 50, and that is no map of the text. */
    private static void mapIsThereAlready() {
        Edges.refused("M 1 1 1\nM 1 1 1", 4);
        Edges.refused("M 1 1 1\nM 2 1 1\nM 1 2 2", 4);
        Edges.refused("M 99 1 1\nF 0 1 1 0 0\nM 99 1 1", 4);
        Edges.taken("M 1 1 1\nM 2 1 1\nM 99 1 1");
        Run x = Edges.busy();
        Check.due("map 50 again, in another text", Check.read(x, "M 50 1 1"), 1);
    }

    /** "a label that occurs, has a group, a picture or marks"; the cursor and a TEXT it may have. */
    private static void labels() {
        String[] wrong = {"O 1", "O 2", "G 1", "P 0 0 0", "P 3 1 1", "V 1", "V 3"};
        for (String line : wrong) {
            Edges.refused(LABEL + line, 4);
            Edges.refused(LABEL + "C\nI ABCD\n" + line, 4);
            Edges.taken(FIELD + line);
        }
        Edges.taken(LABEL + "C");
        Edges.taken(LABEL + "I ABCD");
        Edges.taken(MAP + "F 0 1 1 0 0\nC");
    }

    /** "O, G, P, V, C or I again for a field": the same line, another number, other lines between. */
    private static void again() {
        String[][] lines = {{"O 1", "O 2"}, {"G 1", "G 2"}, {"P 0 0 0", "P 1 1 1"}, {"V 1", "V 2"}, {"C", "C"},
            {"I A", "I B"}};
        for (int i = 0; i < lines.length; i++) {
            String other = lines[(i + 1) % lines.length][0];
            Edges.refused(FIELD + lines[i][0] + "\n" + lines[i][0], 4);
            Edges.refused(FIELD + lines[i][0] + "\n" + lines[i][1], 4);
            Edges.refused(FIELD + lines[i][1] + "\n" + other + "\n* x\n" + lines[i][0], 4);
            Edges.taken(FIELD + lines[i][0] + "\n" + other);
            if (i != 1 && i != 4) {
                Edges.taken(FIELD + lines[i][0] + "\nF 2 2 1 4 0\n" + lines[i][0]);
            }
        }
        Edges.taken(FIELD + "G 1\nF 2 1 6 4 0\nG 1");
        Edges.refused(LABEL + "I A\nI B", 4);
        Edges.refused(FIELD + "I  \nI A", 4);
    }

    /** "(C: for a map)". */
    private static void cursorAgain() {
        Edges.refused(FIELD + "C\nF 2 2 1 4 0\nC", 4);
        Edges.refused(FIELD + "C\nF 0 2 1 4 0\nC", 4);
        Edges.refused(LABEL + "C\nF 2 2 1 4 0\nF 3 3 1 4 0\nC", 4);
        Edges.taken(FIELD + "F 2 2 1 4 0\nC");
        Edges.taken(FIELD + "C\nM 2 3 20\nF 1 1 1 4 0\nC");
    }

    /** "5 there are 8 maps". */
    private static void eightMaps() {
        Edges.taken(Check.maps(7));
        Edges.taken(Check.maps(8));
        Edges.refused(Check.maps(8) + "M 9 1 1", 5);
        Edges.refused(Check.maps(8) + "M 99 24 80", 5);
        Edges.taken(Check.maps(8) + "F 0 1 1 0 0\nC");
        Edges.refused(Check.maps(8) + "F 0 1 1 0 0\nC\nM 9 1 1", 5);
        Run x = Check.withText(Check.maps(8));
        for (int n = 0; n <= 9; n++) {
            Check.due("map " + n, x.screen(n, 1, 1), n >= 1 && n <= 8 ? 32 : -1);
        }
    }

    /** "30 fields of a map": labels are fields, too, and each map has its own. */
    private static void thirtyFields() {
        Edges.taken(fields(1, 29));
        Edges.taken(fields(1, 30));
        Edges.refused(fields(1, 30) + "F 99 2 1 1 0", 5);
        Edges.refused(fields(1, 30) + "F 0 2 1 0 0", 5);
        Edges.taken(fields(1, 29) + "F 99 2 1 1 0\nO 2\nG 1\nP 0 1 1\nV 1\nC\nI A");
        Edges.taken(fields(1, 30) + fields(2, 30));
        Edges.refused(fields(1, 30) + fields(2, 30) + "F 99 2 1 1 0", 5);
        Edges.taken(fields(1, 30) + "M 2 1 9\nF 1 1 1 1 0");
        Run x = Check.withText(fields(1, 30));
        Check.due("the 29th", x.field(1, 28, 2), 57);
        Check.due("the 30th", x.field(1, 29, 2), 59);
        Check.due("no 31st", x.field(1, 30, 2), -1);
        Check.due("the layout of 15 with names", x.layout(1, 0, 0), 12 + 15 * 4);
    }

    /** 1 ahead of 2, 3, 4 and 5. */
    private static void faultOneFirst() {
        Edges.refused("F 1 1 1 1", 1);
        Edges.refused("O", 1);
        Edges.refused("C 1", 1);
        Edges.refused("I", 1);
        Edges.refused(MAP + "I ", 1);
        Edges.refused("M 0 25", 1);
        Edges.refused("M 0 25 0081", 1);
        Edges.refused(FIELD + "F 100 9 99 99", 1);
        Edges.refused(FIELD + "V 4 4", 1);
        Edges.refused("M 1 1 1\nM 1 1", 1);
        Edges.refused(FIELD + "F 1 1 1 4 0 0", 1);
        Edges.refused(FIELD + "I A\nI ABCDE", 1);
        Edges.refused(FIELD + "I A\nI", 1);
        Edges.refused(FIELD + "C\nC 1", 1);
        Edges.refused(LABEL + "O 1 1", 1);
        Edges.refused(Check.maps(8) + "M 9 1", 1);
        Edges.refused(fields(1, 30) + "F 99 2 1 1", 1);
    }

    /** 2 ahead of 3 and 4: a number that isn't as told, a second C. */
    private static void faultTwoAhead() {
        Edges.refused("F 100 25 81 81 16", 2);
        Edges.refused("O 21", 2);
        Edges.refused(MAP + "G 100", 2);
        Edges.refused(MAP + "P 10 2 2", 2);
        Edges.refused(MAP + "V 4", 2);
        Edges.refused(FIELD + "C\nM 2 1 9\nC", 2);
        Edges.refused(FIELD + "O 2\nM 2 1 9\nO 0", 2);
        // Without a field there is no l for which a TEXT could be too long.
        Edges.refused("I " + "A".repeat(81), 2);
        Edges.refused(FIELD + "M 2 1 9\nI ABCDE", 2);
    }

    /** 3 ahead of 4 and 5. */
    private static void faultThreeAhead() {
        Edges.refused("M 1 1 1\nM 1 25 1", 3);
        Edges.refused("M 1 1 1\nM 1 1 0", 3);
        Edges.refused(FIELD + "F 1 4 1 4 0", 3);
        Edges.refused(FIELD + "F 1 1 1 4 16", 3);
        Edges.refused(FIELD + "F 2 1 1 4 16", 3);
        Edges.refused(FIELD + "F 2 1 21 80 0", 3);
        Edges.refused(FIELD + "O 2\nO 21", 3);
        Edges.refused(FIELD + "G 2\nG 0", 3);
        Edges.refused(FIELD + "P 0 0 0\nP 4 0 0", 3);
        Edges.refused(FIELD + "V 1\nV 0", 3);
        Edges.refused(LABEL + "O 0", 3);
        Edges.refused(LABEL + "G 100", 3);
        Edges.refused(LABEL + "P 4 0 0", 3);
        Edges.refused(MAP + "F 0 1 1 0 0\nP 0 0 0", 3);
        Edges.refused(LABEL + "V 4", 3);
        Edges.refused(Check.maps(8) + "M 100 1 1", 3);
        Edges.refused(Check.maps(8) + "M 8 1 81", 3);
        Edges.refused(fields(1, 30) + "F 100 2 1 1 0", 3);
        Edges.refused(fields(1, 30) + "F 99 3 1 1 0", 3);
    }

    /** 4 ahead of 5. */
    private static void faultFourAhead() {
        Edges.refused(Check.maps(8) + "M 1 1 1", 4);
        Edges.refused(Check.maps(8) + "M 8 1 1", 4);
        Edges.refused(fields(1, 30) + "F 1 2 1 1 0", 4);
        Edges.refused(fields(1, 30) + "F 29 2 1 1 0", 4);
        Edges.refused(fields(1, 30) + "F 99 2 80 1 0", 4);
        Edges.refused(fields(1, 30) + "F 99 1 60 1 0", 4, 29, 30);
        Edges.refused(fields(1, 30) + "F 0 1 1 0 0", 4, 0, 30);
        Edges.taken(fields(1, 30) + "O 2");
        Edges.refused(fields(1, 30) + "O 20", 4);
    }

    /** A text's maps and fields, refused or taken, are gone with it. */
    private static void faultsOfEarlierTexts() {
        Run x = new Run();
        Check.due("a fault", Check.read(x, FIELD + "C\nQ"), -5);
        Check.due("no field of the text before", Check.read(x, "O 2"), -2);
        Check.due("told(0)", x.told(0), 2);
        Check.due("no map of the text before", Check.read(x, "F 2 2 1 1 0"), -2);
        Check.due("told(0)", x.told(0), 2);
        Check.due("map, name and cursor again", Check.read(x, FIELD + "C"), 1);
        Check.due("and again", Check.read(x, FIELD + "C\nG 1"), 1);
        Check.due("no field of the edition at hand", Check.read(x, "I ABCDE"), -2);
        Check.due("told(0)", x.told(0), 2);
        Check.due("eight maps", Check.read(x, Check.maps(8)), 8);
        Check.due("eight maps again", Check.read(x, Check.maps(8)), 8);
    }
}
