/** A MapText whose calls are counted: what it answers beyond the 512th is free, so no test may rest on it. */
final class Run {
    static final int MOST_CALLS = 512;
    static final int THROWS = 1000;

    private final MapText x = new MapText();
    private int calls;

    int left() {
        return MOST_CALLS - calls;
    }

    private MapText called() {
        calls++;
        if (calls == MOST_CALLS + 1) {
            Check.due("calls of one object", calls, MOST_CALLS);
        }
        return x;
    }

    void sign(int c) {
        called().sign(c);
    }

    int read() {
        return called().read();
    }

    int field(int map, int i, int what) {
        return called().field(map, i, what);
    }

    int overlap(int i, int side) {
        return called().overlap(i, side);
    }

    int layout(int map, int field, int what) {
        return called().layout(map, field, what);
    }

    int screen(int map, int row, int column) {
        return called().screen(map, row, column);
    }

    int fill(int map, int field, int v) {
        return called().fill(map, field, v);
    }

    /** The byte, or THROWS when the class throws as the document says; the machine's own throw has a message. */
    int octet(int i) {
        try {
            return called().octet(i);
        } catch (ArrayIndexOutOfBoundsException e) {
            Check.due("the machine threw in octet(" + i + ") (1 yes, 0 no)", e.getMessage() == null ? 0 : 1, 0);
            return THROWS;
        }
    }

    int take(int map, int b) {
        return called().take(map, (byte) b);
    }

    int differ(int edition) {
        return called().differ(edition);
    }

    int program(int map, int edition) {
        return called().program(map, edition);
    }

    int group(int map, int field) {
        return called().group(map, field);
    }

    int told(int what) {
        return called().told(what);
    }
}
