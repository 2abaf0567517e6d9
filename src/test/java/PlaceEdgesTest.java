/** Terms: the places that fields take, the row's end, lying over another field, groups: every place of a small row. */
public final class PlaceEdgesTest {
    public static void main(String[] args) {
        rowsEnd();
        rowsEndWithAllTimes();
        lyingOverAnother();
        anotherRowIsFree();
        lyingOverATime();
        timesLyingOverAnother();
        firstOneIsTold();
        firstOneOfTimesIsTold();
        overlapOfTheLatestMap();
        groupGoesOnJustBehind();
        groupGoesOnBehindItsLatest();
        groupOfAnotherMap();
        Check.end();
    }

    private static String field(int name, int row, int column, int length) {
        return "F " + name + " " + row + " " + column + " " + length + " 0";
    }

    /** "It takes l + 1 places of its row"; "it lies over the row's end". */
    private static void rowsEnd() {
        for (int c = 1; c <= 5; c++) {
            for (int x = 1; x <= c; x++) {
                for (int l = 0; l <= 6; l++) {
                    String text = "M 1 2 " + c + "\n" + field(0, 1, x, l);
                    if (x + l <= c) {
                        Edges.taken(text);
                    } else {
                        Edges.refused(text, 4);
                    }
                }
            }
        }
        Edges.taken("M 1 24 80\n" + field(1, 24, 1, 79));
        Edges.taken("M 1 24 80\n" + field(1, 24, 79, 1));
        Edges.refused("M 1 24 80\n" + field(1, 24, 2, 79), 4);
        Edges.refused("M 1 24 80\n" + field(1, 24, 80, 1), 4);
    }

    /** "(with all its times)". */
    private static void rowsEndWithAllTimes() {
        for (int l = 1; l <= 4; l++) {
            for (int x = 1; x <= 9; x += 4) {
                for (int k = 1; k <= 20; k++) {
                    String text = "M 1 1 40\n" + field(1, 1, x, l) + "\nO " + k;
                    if (x + k * (l + 1) - 1 <= 40) {
                        Edges.taken(text);
                    } else {
                        Edges.refused(text, 4);
                    }
                }
            }
        }
        Edges.taken("M 1 1 80\n" + field(1, 1, 1, 3) + "\nO 20");
        Edges.refused("M 1 1 80\n" + field(1, 1, 2, 3) + "\nO 20", 4);
        Edges.refused("M 1 1 79\n" + field(1, 1, 1, 3) + "\nO 20", 4);
    }

    /** "it lies over another field, with its blank places", or that one over it. */
    private static void lyingOverAnother() {
        int c = 7;
        for (int x = 1; x <= c; x++) {
            for (int l = 0; x + l <= c; l++) {
                for (int newX = 1; newX <= c; newX++) {
                    for (int newL = 0; newX + newL <= c; newL++) {
                        String text = "M 1 1 " + c + "\n" + field(0, 1, x, l) + "\n" + field(0, 1, newX, newL);
                        if (newX > x + l || x > newX + newL) {
                            Edges.taken(text);
                        } else {
                            Edges.refused(text, 4, 0, 1);
                        }
                    }
                }
            }
        }
    }

    private static void anotherRowIsFree() {
        for (int row = 1; row <= 3; row++) {
            String text = "M 1 3 9\n" + field(1, 2, 2, 5) + "\n" + field(2, row, 3, 5);
            if (row == 2) {
                Edges.refused(text, 4, 0, 1);
            } else {
                Edges.taken(text);
            }
        }
    }

    /** Each time of a field, with its blank place, is taken; the place just behind the last is free. */
    private static void lyingOverATime() {
        for (int k = 1; k <= 4; k++) {
            for (int column = 1; column <= 20; column++) {
                String text = "M 1 1 20\n" + field(1, 1, 4, 2) + "\nO " + k + "\n" + field(0, 1, column, 0);
                if (column < 4 || column >= 4 + 3 * k) {
                    Edges.taken(text);
                } else {
                    Edges.refused(text, 4, 0, 1);
                }
            }
        }
    }

    private static void timesLyingOverAnother() {
        for (int k = 1; k <= 6; k++) {
            for (int column = 5; column <= 20; column++) {
                String text = "M 1 1 20\n" + field(0, 1, column, 0) + "\n" + field(1, 1, 2, 2) + "\nO " + k;
                if (column >= 2 + 3 * k) {
                    Edges.taken(text);
                } else {
                    Edges.refused(text, 4, 0, 1);
                }
            }
        }
    }

    /** "the first one of these is told by overlap(), with the new one": by lines, wherever it is in the row. */
    private static void firstOneIsTold() {
        int[][] orders = {{3, 6, 9}, {3, 9, 6}, {6, 3, 9}, {6, 9, 3}, {9, 3, 6}, {9, 6, 3}};
        for (int[] order : orders) {
            String text = "M 1 2 12\n" + field(0, 2, 1, 9) + "\n";
            for (int column : order) {
                text += field(0, 1, column, 0) + "\n";
            }
            for (int x = 1; x <= 12; x++) {
                for (int l = 0; x + l <= 12; l++) {
                    int first = -1;
                    for (int i = 2; i >= 0; i--) {
                        first = order[i] >= x && order[i] <= x + l ? i + 1 : first;
                    }
                    if (first == -1) {
                        Edges.taken(text + field(0, 1, x, l));
                    } else {
                        Edges.refused(text + field(0, 1, x, l), 4, first, 4);
                    }
                }
            }
        }
    }

    private static void firstOneOfTimesIsTold() {
        String text = "M 1 2 20\n" + field(1, 1, 12, 2) + "\n" + field(2, 1, 6, 2) + "\n" + field(3, 1, 1, 1) + "\nO ";
        Edges.taken(text + "2");
        Edges.refused(text + "3", 4, 1, 2);
        Edges.refused(text + "5", 4, 1, 2);
        Edges.refused(text + "6", 4, 0, 2);
        Edges.refused(text + "10", 4, 0, 2);
        Edges.refused(text + "11", 4);
    }

    /** "the number, by lines in their map (from 0 on)". */
    private static void overlapOfTheLatestMap() {
        String first = "M 1 1 20\n" + field(1, 1, 1, 9) + "\n" + field(2, 1, 11, 9) + "\n";
        Edges.taken(first + "M 2 1 20\n" + field(1, 1, 1, 9));
        Edges.refused(first + "M 2 1 20\n" + field(1, 1, 1, 9) + "\n" + field(2, 1, 10, 9), 4, 0, 1);
        Edges.refused(first + "M 2 1 20\n" + field(0, 1, 20, 0) + "\n" + field(1, 1, 1, 9) + "\n" + field(2, 1, 10, 9), 4, 1, 2);
    }

    /** "must begin, in the same row, just behind the group's field before". */
    private static void groupGoesOnJustBehind() {
        for (int k = 1; k <= 3; k++) {
            String text = "M 1 3 20\n" + field(1, 2, 5, 2) + "\nG 7\nO " + k + "\n";
            for (int row = 1; row <= 3; row++) {
                for (int column = 1; column <= 18; column++) {
                    boolean over = row == 2 && column + 1 >= 5 && column < 5 + 3 * k;
                    String all = text + field(2, row, column, 1) + "\nG ";
                    if (over) {
                        continue;
                    }
                    if (row == 2 && column == 5 + 3 * k) {
                        Edges.taken(all + "7");
                    } else {
                        Edges.refused(all + "7", 4);
                    }
                    Edges.taken(all + "8");
                }
            }
        }
    }

    /** The group's field before is the latest one of it, whatever stands between the lines. */
    private static void groupGoesOnBehindItsLatest() {
        String two = "M 1 3 40\n" + field(1, 1, 1, 2) + "\nG 7\n" + field(2, 1, 4, 2) + "\nG 7\n";
        Edges.taken(two + field(3, 1, 7, 2) + "\nG 7");
        Edges.refused(two + field(3, 1, 8, 2) + "\nG 7", 4);
        Edges.refused(two + field(3, 2, 7, 2) + "\nG 7", 4);
        Edges.taken(two + field(3, 3, 1, 2) + "\nG 8\n" + field(0, 2, 1, 2) + "\n" + field(4, 1, 7, 2) + "\nG 7");
        Edges.refused(two + field(3, 1, 7, 2) + "\nG 8\n" + field(4, 1, 10, 2) + "\nG 7", 4);
        Edges.refused(two + field(3, 1, 7, 2) + "\n" + field(4, 1, 10, 2) + "\nG 7", 4);
        Edges.refused("M 1 3 40\n" + field(1, 1, 4, 2) + "\nG 7\n" + field(2, 1, 1, 2) + "\nG 7", 4);
    }

    /** "a group that the map has already": another map's group of that number is another one. */
    private static void groupOfAnotherMap() {
        Edges.taken("M 1 3 40\n" + field(1, 1, 1, 2) + "\nG 7\nM 2 3 40\n" + field(1, 2, 9, 2) + "\nG 7");
    }
}
