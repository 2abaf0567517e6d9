import java.util.ArrayList;
import java.util.LinkedHashMap;
import java.util.List;
import java.util.Map;
import java.util.TreeSet;
import java.util.regex.Matcher;
import java.util.regex.Pattern;

/** The promises once more, by other means: patterns for lines, painted grids, strings, whole layouts kept. */
final class Model {
    private static final Pattern NUMBERS = Pattern.compile(" *([MFOGPVC])((?: +[0-9]{1,3})*) *");
    private static final Pattern TEXT = Pattern.compile(" *I (.+)");
    private static final Map<String, Integer> DUE = Map.of("M", 3, "F", 5, "O", 1, "G", 1, "P", 3, "V", 1, "C", 0);

    private static final class One {
        int[] told;
        Map<String, int[]> lines = new LinkedHashMap<>();
        String text = "";

        int get(String word, int which, int without) {
            return lines.containsKey(word) ? lines.get(word)[which] : without;
        }

        int times() {
            return get("O", 0, 1);
        }

        int group() {
            return get("G", 0, 0);
        }

        TreeSet<Integer> columns(int times) {
            TreeSet<Integer> all = new TreeSet<>();
            for (int i = 0; i < (told[3] + 1) * times; i++) {
                all.add(told[2] + i);
            }
            return all;
        }
    }

    private static final class Screen {
        int rows;
        int columns;
        List<One> fields = new ArrayList<>();

        One named(int name) {
            return fields.stream().filter(f -> name != 0 && f.told[0] == name).findFirst().orElse(null);
        }

        List<One> slots() {
            List<One> all = new ArrayList<>();
            for (One f : fields) {
                for (int i = 0; f.told[0] != 0 && i < f.times(); i++) {
                    all.add(f);
                }
            }
            return all;
        }

        int placeOf(One field) {
            int at = 12;
            for (One f : slots()) {
                if (f == field) {
                    return at;
                }
                at += 3 + f.told[3];
            }
            return at;
        }
    }

    private StringBuilder text = new StringBuilder();
    private final List<Map<Integer, Screen>> editions = new ArrayList<>();
    private Map<Integer, Screen> atHand = new LinkedHashMap<>();
    private Map<Integer, Screen> draft;
    private Screen screen;
    private One one;
    private int[] over = {-1, -1};
    private int fault;
    private int line;
    private String edited = "";
    private int map;
    private final List<Integer> came = new ArrayList<>();

    void sign(int c) {
        for (byte b : new byte[] {(byte) (c >>> 24), (byte) (c >>> 16), (byte) (c >>> 8), (byte) c}) {
            if ((b == '\n' || b >= ' ' && b <= '~') && text.length() < 3000) {
                text.append((char) b);
            }
        }
    }

    int read() {
        String[] lines = text.toString().split("\n", -1);
        text = new StringBuilder();
        if (editions.size() == 6) {
            return -1;
        }
        draft = new LinkedHashMap<>();
        screen = null;
        one = null;
        over = new int[] {-1, -1};
        for (line = 1; line <= lines.length; line++) {
            String said = lines[line - 1];
            fault = said.isBlank() || said.trim().startsWith("*") ? 0 : faultOf(said);
            if (fault != 0) {
                return -1 - line;
            }
        }
        line = 0;
        editions.add(draft);
        atHand = draft;
        came.clear();
        map = 0;
        return draft.size();
    }

    private int faultOf(String said) {
        Matcher shown = TEXT.matcher(said);
        if (shown.matches()) {
            return faultOfText(shown.group(1));
        }
        Matcher m = NUMBERS.matcher(said);
        if (!m.matches()) {
            return 1;
        }
        String word = m.group(1);
        String rest = m.group(2).trim();
        String[] parts = rest.isEmpty() ? new String[0] : rest.split(" +");
        int[] n = new int[parts.length];
        for (int i = 0; i < n.length; i++) {
            n[i] = Integer.parseInt(parts[i]);
        }
        if (n.length != DUE.get(word)) {
            return 1;
        }
        if (word.equals("M")) {
            return faultOfMap(n);
        }
        if (word.equals("F")) {
            return faultOfField(n);
        }
        return screen == null || one == null ? 2 : faultOfRest(word, n);
    }

    private int faultOfText(String shown) {
        if (one == null) {
            return 2;
        }
        if (shown.length() > one.told[3]) {
            return 1;
        }
        if (!one.text.isEmpty()) {
            return 4;
        }
        one.text = shown;
        return 0;
    }

    private int faultOfMap(int[] n) {
        if (n[0] < 1 || n[0] > 99 || n[1] < 1 || n[1] > 24 || n[2] < 1 || n[2] > 80) {
            return 3;
        }
        if (draft.containsKey(n[0])) {
            return 4;
        }
        if (draft.size() == 8) {
            return 5;
        }
        screen = new Screen();
        screen.rows = n[1];
        screen.columns = n[2];
        draft.put(n[0], screen);
        one = null;
        return 0;
    }

    private int faultOfField(int[] n) {
        if (screen == null) {
            return 2;
        }
        if (n[0] > 99 || n[1] < 1 || n[1] > screen.rows || n[2] < 1 || n[2] > screen.columns || n[3] > 80
            || n[3] == 0 && n[0] != 0 || n[4] > 15) {
            return 3;
        }
        One next = new One();
        next.told = n;
        if (screen.named(n[0]) != null || isOver(next, screen.fields.size(), 1)) {
            return 4;
        }
        if (screen.fields.size() == 30) {
            return 5;
        }
        one = next;
        screen.fields.add(next);
        return 0;
    }

    private boolean isOver(One next, int index, int times) {
        if (next.columns(times).last() > screen.columns) {
            return true;
        }
        for (int i = 0; i < index; i++) {
            One f = screen.fields.get(i);
            TreeSet<Integer> shared = f.columns(f.times());
            shared.retainAll(next.columns(times));
            if (f.told[1] == next.told[1] && !shared.isEmpty()) {
                over = new int[] {i, index};
                return true;
            }
        }
        return false;
    }

    private int faultOfRest(String word, int[] n) {
        int length = one.told[3];
        if (word.equals("O") && (n[0] < 1 || n[0] > 20) || word.equals("G") && (n[0] < 1 || n[0] > 99)
            || word.equals("P") && (n[0] > 9 || n[0] >= length || n[1] > 1 || n[2] > 1)
            || word.equals("V") && (n[0] < 1 || n[0] > 3)) {
            return 3;
        }
        if (word.equals("O") && isOver(one, screen.fields.size() - 1, n[0])) {
            return 4;
        }
        if (word.equals("G") && isParted(n[0]) || one.lines.containsKey(word)) {
            return 4;
        }
        if (word.equals("C")) {
            if (screen.fields.stream().anyMatch(f -> f.lines.containsKey("C"))) {
                return 4;
            }
        } else if (one.told[0] == 0) {
            return 4;
        }
        one.lines.put(word, n);
        return 0;
    }

    private boolean isParted(int group) {
        One before = null;
        for (One f : screen.fields) {
            before = f.group() == group ? f : before;
        }
        return before != null
            && (before.told[1] != one.told[1] || before.columns(before.times()).last() + 1 != one.told[2]);
    }

    int field(int number, int i, int what) {
        Screen s = atHand.get(number);
        if (s == null || i < 0 || i >= s.fields.size() || what < 0 || what > 9) {
            return -1;
        }
        One f = s.fields.get(i);
        int[] rest = {f.times(), f.group(), f.get("P", 0, 0), f.get("V", 0, 0), f.lines.containsKey("C") ? 1 : 0};
        return what < 5 ? f.told[what] : rest[what - 5];
    }

    int overlap(int i, int side) {
        return i == 0 && (side == 0 || side == 1) ? over[side] : -1;
    }

    int layout(int number, int name, int what) {
        Screen s = atHand.get(number);
        if (s == null || what < 0 || what > 3) {
            return -1;
        }
        if (name == 0) {
            return what == 0 ? s.placeOf(null) : -1;
        }
        One f = s.named(name);
        if (f == null) {
            return -1;
        }
        int at = s.placeOf(f);
        return new int[] {at, at + 2, at + 3, (3 + f.told[3]) * f.times()}[what];
    }

    int screen(int number, int row, int column) {
        Screen s = atHand.get(number);
        if (s == null || row < 1 || row > s.rows || column < 1 || column > s.columns) {
            return -1;
        }
        StringBuilder painted = new StringBuilder(" ".repeat(s.columns + 1));
        for (One f : s.fields) {
            for (int i = 0; f.told[1] == row && (f.told[4] & 8) == 0 && i < f.times(); i++) {
                int from = f.told[2] + 1 + i * (f.told[3] + 1);
                painted.replace(from, from + f.text.length(), f.text);
            }
        }
        return painted.charAt(column);
    }

    int fill(int number, int name, int v) {
        Screen s = atHand.get(number);
        One f = s == null ? null : s.named(name);
        if (f == null) {
            return -2;
        }
        int length = f.told[3];
        int decimals = f.get("P", 0, 0);
        String all = String.valueOf(Math.abs((long) v));
        all = "0".repeat(Math.max(0, decimals + 1 - all.length())) + all;
        if (decimals > 0) {
            all = all.substring(0, all.length() - decimals) + "." + all.substring(all.length() - decimals);
        }
        all = all.substring(Math.max(0, all.length() - length));
        int left = length - all.length();
        if (f.get("P", 2, 0) == 1) {
            all = "0".repeat(left) + all;
            edited = v < 0 ? all.replaceFirst("^0", "-") : all;
            return length;
        }
        if (v < 0 && left > 0) {
            all = "-" + all;
            left--;
        }
        edited = f.get("P", 1, 0) == 1 ? " ".repeat(left) + all : all + " ".repeat(left);
        return length;
    }

    String edited() {
        return edited;
    }

    int octet(int i) {
        return i < 0 || i >= edited.length() ? 1000 : edited.charAt(i);
    }

    int take(int number, byte b) {
        Screen s = atHand.get(number);
        if (s == null) {
            return -2;
        }
        if (number != map) {
            came.clear();
        }
        map = number;
        came.add(b & 255);
        if (came.size() < s.placeOf(null)) {
            return -1;
        }
        int good = 0;
        int at = 12;
        for (One f : s.slots()) {
            good += isGood(f, came.subList(at, at + 3 + f.told[3])) ? 1 : 0;
            at += 3 + f.told[3];
        }
        came.clear();
        return good;
    }

    private static boolean isGood(One f, List<Integer> bytes) {
        int n = bytes.get(0) * 256 + bytes.get(1);
        int length = f.told[3];
        int marks = f.get("V", 0, 0);
        if (n > length || (marks & 1) != 0 && n == 0 || (marks & 2) != 0 && n != 0 && n != length) {
            return false;
        }
        return (f.told[4] & 2) == 0 || bytes.subList(3, 3 + n).stream().allMatch(c -> c >= '0' && c <= '9');
    }

    int differ(int edition) {
        if (edition < 1 || edition > editions.size()) {
            return -2;
        }
        int differing = 0;
        for (Map.Entry<Integer, Screen> e : atHand.entrySet()) {
            differing += differing(e.getValue(), editions.get(edition - 1).get(e.getKey()));
        }
        return differing;
    }

    private static int differing(Screen mine, Screen its) {
        int differing = 0;
        for (One f : mine.fields) {
            One g = its == null ? null : its.named(f.told[0]);
            boolean same = g != null && g.told[3] == f.told[3] && g.times() == f.times()
                && its.placeOf(g) == mine.placeOf(f);
            differing += f.told[0] == 0 || same ? 0 : 1;
        }
        return differing;
    }

    int program(int number, int edition) {
        if (edition < 1 || edition > editions.size()) {
            return -2;
        }
        Screen then = editions.get(edition - 1).get(number);
        Screen now = atHand.get(number);
        if (then == null || now == null) {
            return -2;
        }
        return differing(then, now) == 0 ? 1 : 0;
    }

    int group(int number, int name) {
        Screen s = atHand.get(number);
        One f = s == null ? null : s.named(name);
        if (f == null) {
            return -2;
        }
        int places = 0;
        for (One g : s.fields) {
            places += g.group() != 0 && g.group() == f.group() ? g.columns(g.times()).size() : 0;
        }
        return places;
    }

    int told(int what) {
        int[] all = {fault, line, editions.size(), atHand.size(), text.length(), came.size()};
        return what < 0 || what > 5 ? -1 : all[what];
    }
}
