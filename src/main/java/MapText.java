import java.util.Arrays;

/** Maps for screens told by text; ../shared/DOC.md says what each call promises. */
public final class MapText {
    public static final int NONE = -1;

    private static final int MISSING = -2;

    private static final int MOST_SIGNS = 3000;
    private static final int MOST_EDITIONS = 6;
    private static final int MOST_MAPS = 8;
    private static final int MOST_FIELDS = 30;
    private static final int MOST_ROWS = 24;
    private static final int MOST_COLUMNS = 80;
    private static final int MOST_LENGTH = 80;
    private static final int MOST_TIMES = 20;
    private static final int MOST_NAME = 99;
    private static final int MOST_DECIMALS = 9;
    private static final int MOST_NUMBERS = 5;
    private static final int MOST_DIGITS = 3;

    private static final int MAP_HEAD = 12;
    private static final int TIME_HEAD = 3;

    private static final int ALL_ATTRIBUTES = 15;
    private static final int NUMERIC = 2;
    private static final int DARK = 8;
    private static final int ALL_MARKS = 3;
    private static final int REQUIRED = 1;
    private static final int FULL = 2;

    private static final int NO_FAULT = 0;
    private static final int NO_SUCH_LINE = 1;
    private static final int BELONGS_NOWHERE = 2;
    private static final int WRONG_NUMBER = 3;
    private static final int DOES_NOT_FIT = 4;
    private static final int TOO_MANY = 5;

    private static final int LINE_END = 10;
    private static final int BLANK = 32;
    private static final int LAST_SIGN = 126;

    private final byte[] text = new byte[MOST_SIGNS];
    private int signs;
    private final Edition[] editions = new Edition[MOST_EDITIONS];
    private int editionCount;
    private Edition atHand = new Edition();
    private final Draft draft = new Draft();
    private int fault;
    private int faultLine;
    private final Edited edited = new Edited();
    private final Intake intake = new Intake();

    public MapText() {
    }

    public void sign(int c) {
        for (int shift = 24; shift >= 0; shift -= 8) {
            int one = (c >> shift) & 255;
            boolean isSign = one == LINE_END || isWithin(one, BLANK, LAST_SIGN);
            if (isSign && signs < MOST_SIGNS) {
                text[signs] = (byte) one;
                signs++;
            }
        }
    }

    public int read() {
        int length = signs;
        signs = 0;
        if (editionCount >= MOST_EDITIONS) {
            return NONE;
        }
        draft.startAnew();
        faultLine = firstFaultyLine(length);
        if (faultLine != 0) {
            return -1 - faultLine;
        }
        keep(draft.edition);
        return atHand.count;
    }

    public int field(int map, int i, int what) {
        ScreenMap m = atHand.mapNumbered(map);
        if (m == null || i < 0 || i >= m.count) {
            return NONE;
        }
        Field f = m.fields[i];
        switch (what) {
            case 0: return f.name;
            case 1: return f.row;
            case 2: return f.column;
            case 3: return f.length;
            case 4: return f.attributes;
            case 5: return f.times;
            case 6: return f.groupNumber;
            case 7: return f.decimals;
            case 8: return f.marks;
            case 9: return f.cursor ? 1 : 0;
            default: return NONE;
        }
    }

    public int overlap(int i, int side) {
        if (i != 0) {
            return NONE;
        }
        switch (side) {
            case 0: return draft.earlier;
            case 1: return draft.newer;
            default: return NONE;
        }
    }

    public int layout(int map, int field, int what) {
        ScreenMap m = atHand.mapNumbered(map);
        if (m == null) {
            return NONE;
        }
        if (field == 0) {
            return what == 0 ? m.layoutBytes : NONE;
        }
        Field f = m.fieldNamed(field);
        if (f == null) {
            return NONE;
        }
        switch (what) {
            case 0: return f.place;
            case 1: return f.place + 2;
            case 2: return f.place + TIME_HEAD;
            case 3: return f.layoutBytes();
            default: return NONE;
        }
    }

    public int screen(int map, int row, int column) {
        ScreenMap m = atHand.mapNumbered(map);
        if (m == null || !isWithin(row, 1, m.rows) || !isWithin(column, 1, m.columns)) {
            return NONE;
        }
        int at = m.firstOver(m.count, row, column, 1);
        return at == NONE ? BLANK : m.fields[at].shownAt(column);
    }

    public int fill(int map, int field, int v) {
        Field f = fieldAtHand(map, field);
        if (f == null) {
            return MISSING;
        }
        edited.edit(f, v);
        return edited.length;
    }

    public byte octet(int i) throws ArrayIndexOutOfBoundsException {
        if (i < 0 || i >= edited.length) {
            throw new ArrayIndexOutOfBoundsException();
        }
        return edited.bytes[i];
    }

    public int take(int map, byte b) {
        ScreenMap m = atHand.mapNumbered(map);
        if (m == null) {
            return MISSING;
        }
        if (intake.map == null || intake.map.number != map) {
            intake.startAnew(m);
        }
        return intake.next(b);
    }

    public int differ(int edition) {
        Edition other = editionNumbered(edition);
        if (other == null) {
            return MISSING;
        }
        int differing = 0;
        for (int i = 0; i < atHand.count; i++) {
            ScreenMap m = atHand.maps[i];
            differing += m.fieldsNotAsIn(other.mapNumbered(m.number));
        }
        return differing;
    }

    public int program(int map, int edition) {
        Edition other = editionNumbered(edition);
        if (other == null) {
            return MISSING;
        }
        ScreenMap then = other.mapNumbered(map);
        ScreenMap now = atHand.mapNumbered(map);
        if (then == null || now == null) {
            return MISSING;
        }
        return then.fieldsNotAsIn(now) == 0 ? 1 : 0;
    }

    public int group(int map, int field) {
        Field f = fieldAtHand(map, field);
        ScreenMap m = atHand.mapNumbered(map);
        if (f == null || m == null) {
            return MISSING;
        }
        return f.groupNumber == 0 ? 0 : m.groupWidth(f.groupNumber);
    }

    public int told(int what) {
        switch (what) {
            case 0: return fault;
            case 1: return faultLine;
            case 2: return editionCount;
            case 3: return atHand.count;
            case 4: return signs;
            case 5: return intake.came;
            default: return NONE;
        }
    }

    private int firstFaultyLine(int length) {
        int line = 0;
        int start = 0;
        for (int at = 0; at <= length; at++) {
            if (at == length || text[at] == LINE_END) {
                line++;
                fault = draft.takeLine(text, start, at);
                if (fault != NO_FAULT) {
                    return line;
                }
                start = at + 1;
            }
        }
        return 0;
    }

    private void keep(Edition next) {
        next.settle();
        editions[editionCount] = next;
        editionCount++;
        atHand = next;
        intake.startAnew(null);
    }

    private Edition editionNumbered(int number) {
        return isWithin(number, 1, editionCount) ? editions[number - 1] : null;
    }

    private Field fieldAtHand(int map, int name) {
        ScreenMap m = atHand.mapNumbered(map);
        return m == null ? null : m.fieldNamed(name);
    }

    private static boolean isWithin(int value, int lowest, int highest) {
        return value >= lowest && value <= highest;
    }

    private static boolean isDigit(int sign) {
        return isWithin(sign, '0', '9');
    }

    private static final class Field {
        final int name;
        final int row;
        final int column;
        final int length;
        final int attributes;
        boolean occurs;
        int times = 1;
        int width;
        int groupNumber;
        boolean pictured;
        int decimals;
        boolean toTheRight;
        boolean noughts;
        int marks;
        boolean cursor;
        byte[] shown;
        int place = NONE;

        Field(int name, int row, int column, int length, int attributes) {
            this.name = name;
            this.row = row;
            this.column = column;
            this.length = length;
            this.attributes = attributes;
            this.width = length + 1;
        }

        boolean isLabel() {
            return name == 0;
        }

        boolean has(int attribute) {
            return (attributes & attribute) != 0;
        }

        boolean isMarked(int mark) {
            return (marks & mark) != 0;
        }

        int timeBytes() {
            return TIME_HEAD + length;
        }

        int layoutBytes() {
            return timeBytes() * times;
        }

        boolean standsOver(int otherRow, int otherColumn, int otherWidth) {
            return row == otherRow && column < otherColumn + otherWidth
                && otherColumn < column + width;
        }

        boolean endsJustAheadOf(Field next) {
            return row == next.row && column + width == next.column;
        }

        boolean isAs(Field other) {
            return length == other.length && times == other.times && place == other.place;
        }

        int shownAt(int screenColumn) {
            if (shown == null || has(DARK) || screenColumn < column) {
                return BLANK;
            }
            int at = (screenColumn - column) % (length + 1) - 1;
            return at >= 0 && at < shown.length ? shown[at] : BLANK;
        }
    }

    private static final class ScreenMap {
        final int number;
        final int rows;
        final int columns;
        final Field[] fields = new Field[MOST_FIELDS];
        int count;
        boolean hasCursor;
        int layoutBytes;

        ScreenMap(int number, int rows, int columns) {
            this.number = number;
            this.rows = rows;
            this.columns = columns;
        }

        Field fieldNamed(int name) {
            // Labels all bear 0, so 0 names none of them.
            if (name == 0) {
                return null;
            }
            for (int i = 0; i < count; i++) {
                if (fields[i].name == name) {
                    return fields[i];
                }
            }
            return null;
        }

        int firstNamedFrom(int from) {
            for (int i = from; i < count; i++) {
                if (!fields[i].isLabel()) {
                    return i;
                }
            }
            return count;
        }

        Field latestOfGroup(int wanted) {
            for (int i = count - 1; i >= 0; i--) {
                if (fields[i].groupNumber == wanted) {
                    return fields[i];
                }
            }
            return null;
        }

        int firstOver(int among, int row, int column, int width) {
            for (int i = 0; i < among && i < count; i++) {
                if (fields[i].standsOver(row, column, width)) {
                    return i;
                }
            }
            return NONE;
        }

        int groupWidth(int wanted) {
            int width = 0;
            for (int i = 0; i < count; i++) {
                if (fields[i].groupNumber == wanted) {
                    width += fields[i].width;
                }
            }
            return width;
        }

        int fieldsNotAsIn(ScreenMap other) {
            int differing = 0;
            for (int i = 0; i < count; i++) {
                Field mine = fields[i];
                Field its = other == null ? null : other.fieldNamed(mine.name);
                if (!mine.isLabel() && (its == null || !mine.isAs(its))) {
                    differing++;
                }
            }
            return differing;
        }

        void settle() {
            int next = MAP_HEAD;
            for (int i = 0; i < count; i++) {
                if (!fields[i].isLabel()) {
                    fields[i].place = next;
                    next += fields[i].layoutBytes();
                }
            }
            layoutBytes = next;
        }
    }

    private static final class Edition {
        final ScreenMap[] maps = new ScreenMap[MOST_MAPS];
        int count;

        ScreenMap mapNumbered(int number) {
            for (int i = 0; i < count; i++) {
                if (maps[i].number == number) {
                    return maps[i];
                }
            }
            return null;
        }

        void settle() {
            for (int i = 0; i < count; i++) {
                maps[i].settle();
            }
        }
    }

    /** One line taken apart, before anything is known of the maps ahead of it. */
    private static final class Line {
        final int[] numbers = new int[MOST_NUMBERS];
        boolean saysNothing;
        boolean wellFormed;
        int word;
        int count;
        int shownFrom;
        int shownTo;

        void scan(byte[] text, int from, int to) {
            int at = firstNotBlank(text, from, to);
            count = 0;
            saysNothing = at >= to || text[at] == '*';
            if (saysNothing) {
                return;
            }
            word = text[at];
            if (word == 'I') {
                wellFormed = scanShown(text, at + 1, to);
            } else {
                wellFormed = scanNumbers(text, at + 1, to) && count == numbersDue();
            }
        }

        boolean fits(int which, int lowest, int highest) {
            return isWithin(numbers[which], lowest, highest);
        }

        private static int firstNotBlank(byte[] text, int from, int to) {
            for (int at = from; at < to; at++) {
                if (text[at] != BLANK) {
                    return at;
                }
            }
            return to;
        }

        private boolean scanShown(byte[] text, int behindWord, int to) {
            shownFrom = behindWord + 1;
            shownTo = to;
            return shownFrom < shownTo && text[behindWord] == BLANK;
        }

        private boolean scanNumbers(byte[] text, int behindWord, int to) {
            // As if a number were full there: a digit right behind the word is refused.
            int digits = MOST_DIGITS;
            for (int at = behindWord; at < to; at++) {
                int one = text[at];
                if (one == BLANK) {
                    digits = 0;
                } else if (!isDigit(one) || digits >= MOST_DIGITS) {
                    return false;
                } else {
                    if (digits == 0 && !startNumber()) {
                        return false;
                    }
                    numbers[count - 1] = numbers[count - 1] * 10 + one - '0';
                    digits++;
                }
            }
            return true;
        }

        private boolean startNumber() {
            if (count >= MOST_NUMBERS) {
                return false;
            }
            numbers[count] = 0;
            count++;
            return true;
        }

        private int numbersDue() {
            switch (word) {
                case 'M': return 3;
                case 'F': return 5;
                case 'P': return 3;
                case 'O':
                case 'G':
                case 'V': return 1;
                case 'C': return 0;
                default: return NONE;
            }
        }
    }

    /** The edition that a text is becoming, with its latest map and field. */
    private static final class Draft {
        final Line line = new Line();
        Edition edition;
        ScreenMap map;
        Field latest;
        int earlier = NONE;
        int newer = NONE;

        void startAnew() {
            edition = new Edition();
            map = null;
            latest = null;
            earlier = NONE;
            newer = NONE;
        }

        int takeLine(byte[] text, int from, int to) {
            line.scan(text, from, to);
            if (line.saysNothing) {
                return NO_FAULT;
            }
            if (!line.wellFormed) {
                return NO_SUCH_LINE;
            }
            if (line.word == 'M') {
                return addMap();
            }
            if (line.word == 'F') {
                return addField();
            }
            // A TEXT is too long by its field's length: fault 1, ahead of all the others.
            if (line.word == 'I' && latest != null && line.shownTo - line.shownFrom > latest.length) {
                return NO_SUCH_LINE;
            }
            if (map == null || latest == null) {
                return BELONGS_NOWHERE;
            }
            switch (line.word) {
                case 'O': return tellTimes();
                case 'G': return tellGroup();
                case 'P': return tellPicture();
                case 'V': return tellMarks();
                case 'C': return tellCursor();
                case 'I': return tellShown(text);
                default: return NO_SUCH_LINE;
            }
        }

        private int addMap() {
            if (edition == null) {
                return BELONGS_NOWHERE;
            }
            if (!line.fits(0, 1, MOST_NAME) || !line.fits(1, 1, MOST_ROWS)
                || !line.fits(2, 1, MOST_COLUMNS)) {
                return WRONG_NUMBER;
            }
            if (edition.mapNumbered(line.numbers[0]) != null) {
                return DOES_NOT_FIT;
            }
            if (edition.count >= MOST_MAPS) {
                return TOO_MANY;
            }
            map = new ScreenMap(line.numbers[0], line.numbers[1], line.numbers[2]);
            latest = null;
            edition.maps[edition.count] = map;
            edition.count++;
            return NO_FAULT;
        }

        private int addField() {
            if (map == null) {
                return BELONGS_NOWHERE;
            }
            if (!hasFieldNumbers()) {
                return WRONG_NUMBER;
            }
            int name = line.numbers[0];
            int row = line.numbers[1];
            int column = line.numbers[2];
            int length = line.numbers[3];
            if (map.fieldNamed(name) != null || !liesFree(map.count, row, column, length + 1)) {
                return DOES_NOT_FIT;
            }
            if (map.count >= MOST_FIELDS) {
                return TOO_MANY;
            }
            latest = new Field(name, row, column, length, line.numbers[4]);
            map.fields[map.count] = latest;
            map.count++;
            return NO_FAULT;
        }

        private boolean hasFieldNumbers() {
            int leastLength = line.numbers[0] == 0 ? 0 : 1;
            return line.fits(0, 0, MOST_NAME) && line.fits(1, 1, map.rows)
                && line.fits(2, 1, map.columns) && line.fits(3, leastLength, MOST_LENGTH)
                && line.fits(4, 0, ALL_ATTRIBUTES);
        }

        private boolean liesFree(int index, int row, int column, int width) {
            if (column + width - 1 > map.columns) {
                return false;
            }
            int over = map.firstOver(index, row, column, width);
            if (over == NONE) {
                return true;
            }
            earlier = over;
            newer = index;
            return false;
        }

        private int tellTimes() {
            if (!line.fits(0, 1, MOST_TIMES)) {
                return WRONG_NUMBER;
            }
            int times = line.numbers[0];
            int width = (latest.length + 1) * times;
            // The document names lying over another field ahead of labels and of O again,
            // so overlap() tells of it then, too.
            if (!liesFree(map.count - 1, latest.row, latest.column, width)
                || latest.isLabel() || latest.occurs) {
                return DOES_NOT_FIT;
            }
            latest.occurs = true;
            latest.times = times;
            latest.width = width;
            return NO_FAULT;
        }

        private int tellGroup() {
            if (!line.fits(0, 1, MOST_NAME)) {
                return WRONG_NUMBER;
            }
            Field before = map.latestOfGroup(line.numbers[0]);
            if (before != null && !before.endsJustAheadOf(latest)) {
                return DOES_NOT_FIT;
            }
            if (latest.isLabel() || latest.groupNumber != 0) {
                return DOES_NOT_FIT;
            }
            latest.groupNumber = line.numbers[0];
            return NO_FAULT;
        }

        private int tellPicture() {
            if (!line.fits(0, 0, Math.min(MOST_DECIMALS, latest.length - 1))
                || !line.fits(1, 0, 1) || !line.fits(2, 0, 1)) {
                return WRONG_NUMBER;
            }
            if (latest.isLabel() || latest.pictured) {
                return DOES_NOT_FIT;
            }
            latest.pictured = true;
            latest.decimals = line.numbers[0];
            latest.toTheRight = line.numbers[1] == 1;
            latest.noughts = line.numbers[2] == 1;
            return NO_FAULT;
        }

        private int tellMarks() {
            if (!line.fits(0, 1, ALL_MARKS)) {
                return WRONG_NUMBER;
            }
            if (latest.isLabel() || latest.marks != 0) {
                return DOES_NOT_FIT;
            }
            latest.marks = line.numbers[0];
            return NO_FAULT;
        }

        private int tellCursor() {
            if (map.hasCursor) {
                return DOES_NOT_FIT;
            }
            map.hasCursor = true;
            latest.cursor = true;
            return NO_FAULT;
        }

        private int tellShown(byte[] text) {
            if (latest.shown != null) {
                return DOES_NOT_FIT;
            }
            latest.shown = Arrays.copyOfRange(text, line.shownFrom, line.shownTo);
            return NO_FAULT;
        }
    }

    /** What fill() edited latest. */
    private static final class Edited {
        final byte[] bytes = new byte[MOST_LENGTH];
        int length;

        void edit(Field f, int v) {
            length = f.length;
            Arrays.fill(bytes, (byte) BLANK);
            int first = writeDigits(f, Math.abs((long) v));
            if (v < 0) {
                first = writeMinus(f, first);
            }
            if (!f.toTheRight) {
                moveToTheLeft(first);
            }
        }

        /** Writes from the last place on towards the first; answers the first place written. */
        private int writeDigits(Field f, long number) {
            long rest = number;
            int point = f.decimals == 0 ? NONE : length - 1 - f.decimals;
            int lastDue = f.decimals == 0 ? length - 1 : point - 1;
            for (int at = length - 1; at >= 0; at--) {
                if (at < lastDue && rest == 0 && !f.noughts) {
                    return at + 1;
                }
                if (at == point) {
                    bytes[at] = '.';
                } else {
                    bytes[at] = (byte) ('0' + rest % 10);
                    rest /= 10;
                }
            }
            return 0;
        }

        private int writeMinus(Field f, int first) {
            if (f.noughts) {
                if (bytes[0] == '0') {
                    bytes[0] = '-';
                }
                return first;
            }
            if (first == 0) {
                return first;
            }
            bytes[first - 1] = '-';
            return first - 1;
        }

        private void moveToTheLeft(int first) {
            System.arraycopy(bytes, first, bytes, 0, length - first);
            Arrays.fill(bytes, length - first, length, (byte) BLANK);
        }
    }

    /** What came in for one map's layout; judged as it comes, so that no byte is kept. */
    private static final class Intake {
        ScreenMap map;
        int came;
        private int good;
        private int index;
        private int time;
        private int cameOfTime;
        private int said;
        private boolean digitsAlone;

        void startAnew(ScreenMap next) {
            map = next;
            came = 0;
            good = 0;
            index = next == null ? 0 : next.firstNamedFrom(0);
            time = 0;
            startTime();
        }

        int next(byte b) {
            if (map == null) {
                return MISSING;
            }
            came++;
            if (came > MAP_HEAD && index < map.count) {
                nextOfField(map.fields[index], b);
            }
            if (came < map.layoutBytes) {
                return NONE;
            }
            int answer = good;
            startAnew(map);
            return answer;
        }

        private void startTime() {
            cameOfTime = 0;
            said = 0;
            digitsAlone = true;
        }

        private void nextOfField(Field f, byte b) {
            if (cameOfTime < 2) {
                said = said * 256 + (b & 255);
            } else if (isCountedData(cameOfTime - TIME_HEAD) && !isDigit(b)) {
                digitsAlone = false;
            }
            cameOfTime++;
            if (cameOfTime == f.timeBytes()) {
                endTime(f);
            }
        }

        private boolean isCountedData(int at) {
            return at >= 0 && at < said;
        }

        private void endTime(Field f) {
            if (isGood(f)) {
                good++;
            }
            startTime();
            time++;
            if (time == f.times) {
                time = 0;
                index = map.firstNamedFrom(index + 1);
            }
        }

        private boolean isGood(Field f) {
            return said <= f.length
                && (said > 0 || !f.isMarked(REQUIRED))
                && (said == 0 || said == f.length || !f.isMarked(FULL))
                && (digitsAlone || !f.has(NUMERIC));
        }
    }
}
