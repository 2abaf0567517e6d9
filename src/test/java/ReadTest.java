/** Promise 3; what a line's FAULT is, the tests of the Terms say (TextEdges, NumberEdges, PlaceEdges, FaultEdges). */
public final class ReadTest {
    public static void main(String[] args) {
        howManyMaps();
        textIsEmptyInAnyCase();
        minusOneMinusTheLine();
        editionAtHandStays();
        latestEditionIsAtHand();
        nextEdition();
        sixEditions();
        nothingElseHappensWithSix();
        Check.end();
    }

    /** "how many maps": none, one, up to 8. */
    private static void howManyMaps() {
        for (int count = 0; count <= 8; count++) {
            Run x = new Run();
            Check.due("read() of " + count, Check.read(x, Check.maps(count)), count);
            Check.due("told(3)", x.told(3), count);
            Check.due("told(2)", x.told(2), 1);
        }
    }

    /** "The text (which is empty then in any case)". */
    private static void textIsEmptyInAnyCase() {
        Run x = new Run();
        String[] texts = {"", "M 1 1 1", "Q", "", "", "", "", "M 1 1 1", "Q", ""};
        for (String text : texts) {
            Check.put(x, text);
            Check.due("told(4) ahead", x.told(4), text.length());
            x.read();
            Check.due("told(4) behind", x.told(4), 0);
        }
        Check.due("six editions", x.told(2), 6);
    }

    /** "-1 minus the line of a FAULT". */
    private static void minusOneMinusTheLine() {
        for (int line = 1; line <= 30; line++) {
            Run x = new Run();
            Check.due("read()", Check.read(x, "\n".repeat(line - 1) + "Q\nQ\n"), -1 - line);
            Check.due("told(1)", x.told(1), line);
        }
    }

    /** "(the edition at hand stays)": at first the one without maps, then the latest one that was taken. */
    private static void editionAtHandStays() {
        Run x = new Run();
        Check.due("a fault", Check.read(x, "M 1 1 1\nQ"), -3);
        Check.due("no maps", x.told(3), 0);
        Check.due("no editions", x.told(2), 0);
        Check.due("no such map", x.screen(1, 1, 1), -1);
        Check.due("an edition", Check.read(x, "M 2 1 1"), 1);
        Check.due("a fault", Check.read(x, "M 1 1 1\nM 3 1 1\nQ"), -4);
        Check.due("one map", x.told(3), 1);
        Check.due("map 2 stays", x.screen(2, 1, 1), 32);
        Check.due("map 1 isn't there", x.screen(1, 1, 1), -1);
    }

    /** "the latest one is AT HAND", one without maps, too. */
    private static void latestEditionIsAtHand() {
        Run x = Check.withText("M 1 1 1");
        Check.due("another", Check.read(x, "M 2 1 1"), 1);
        Check.due("map 1", x.screen(1, 1, 1), -1);
        Check.due("map 2", x.screen(2, 1, 1), 32);
        Check.due("one without maps", Check.read(x, "* none"), 0);
        Check.due("map 2", x.screen(2, 1, 1), -1);
        Check.due("told(3)", x.told(3), 0);
    }

    /** "numbered from 1 on": a text with a fault takes no number. */
    private static void nextEdition() {
        Run x = new Run();
        for (int edition = 1; edition <= 6; edition++) {
            Check.due("a fault", Check.read(x, "M 1 1 9\nF 9 1 1 8 0\nQ"), -4);
            Check.due("no such edition yet", x.differ(edition), -2);
            Check.due("edition", Check.read(x, "M 1 1 9\nF 9 1 1 " + edition + " 0"), 1);
            Check.due("told(2)", x.told(2), edition);
        }
        for (int edition = 1; edition <= 6; edition++) {
            Check.due("differ(" + edition + ")", x.differ(edition), edition == 6 ? 0 : 1);
        }
        Check.due("differ(0)", x.differ(0), -2);
        Check.due("differ(7)", x.differ(7), -2);
    }

    /** "at most 6"; "NONE ... when there are 6": the fifth, the sixth, the seventh, and what is behind. */
    private static void sixEditions() {
        Run x = new Run();
        for (int edition = 1; edition <= 9; edition++) {
            Check.due("read() number " + edition, Check.read(x, Check.maps(edition % 4)), edition <= 6 ? edition % 4 : -1);
            Check.due("told(2)", x.told(2), Math.min(edition, 6));
            Check.due("told(3)", x.told(3), edition <= 6 ? edition % 4 : 2);
        }
    }

    /** "and nothing else happens": neither for a good text nor for one with a fault or one field over another. */
    private static void nothingElseHappensWithSix() {
        String[] texts = {"M 1 1 1", "", "Q", "M 50 1 9\nF 1 1 1 4 0\nF 2 1 3 4 0"};
        for (String text : texts) {
            Run x = Edges.busy();
            for (int edition = 3; edition <= 6; edition++) {
                Check.due("edition " + edition, Check.read(x, "M 50 1 4\nF 3 1 1 2 0"), 1);
            }
            x.take(50, 1);
            String before = Edges.answers(x);
            Check.put(x, text);
            Check.due("read()", x.read(), -1);
            Check.due("told(4)", x.told(4), 0);
            Check.due("all else", Edges.answers(x), before);
            Check.due("told(0)", x.told(0), 0);
            Check.due("told(1)", x.told(1), 0);
            Check.due("overlap(0, 0)", x.overlap(0, 0), -1);
            Check.due("overlap(0, 1)", x.overlap(0, 1), -1);
            Check.due("take goes on", x.take(50, 1), -1);
            Check.due("told(5)", x.told(5), 2);
        }
    }
}
