import java.util.Random;

/** Many runs of calls, always the same ones; each answer against the Model's. */
public final class RandomRunsTest {
    private static final int RUNS = 6000;

    private final Random random;
    private final Run x = new Run();
    private final Model model = new Model();
    private final String run;

    private RandomRunsTest(int seed) {
        random = new Random(seed);
        run = "run " + seed + ": ";
    }

    public static void main(String[] args) {
        for (int seed = 0; seed < RUNS; seed++) {
            new RandomRunsTest(seed).go();
        }
        Check.end();
    }

    private void go() {
        String text = nextText();
        while (x.left() >= Check.fours(text).length + 4) {
            put(text);
            Check.due(run + "told(4)", x.told(4), model.told(4));
            Check.due(run + "read() of " + text.replace("\n", "|"), x.read(), model.read());
            Check.due(run + "overlap(0, 0)", x.overlap(0, 0), model.overlap(0, 0));
            Check.due(run + "overlap(0, 1)", x.overlap(0, 1), model.overlap(0, 1));
            int asks = random.nextInt(60);
            for (int i = 0; i < asks && x.left() > 0; i++) {
                ask();
            }
            text = nextText();
        }
        while (x.left() > 0) {
            ask();
        }
    }

    private String nextText() {
        return random.nextInt(30) == 0 ? noise() : lines();
    }

    private void put(String text) {
        for (int c : Check.fours(text)) {
            x.sign(c);
            model.sign(c);
        }
    }

    private int upTo(int most) {
        return random.nextInt(most + 1);
    }

    /** Mostly within the bounds, now and then just outside, seldom far off. */
    private int around(int least, int most) {
        int how = random.nextInt(200);
        if (how == 0) {
            return random.nextInt();
        }
        return how < 6 ? (random.nextBoolean() ? least - 1 : most + 1) : least + upTo(most - least);
    }

    private String noise() {
        StringBuilder all = new StringBuilder();
        String signs = "MFOGPVCI  0123*\n\nA\u0001\u007f\u00ff";
        for (int i = upTo(60); i > 0; i--) {
            all.append(signs.charAt(random.nextInt(signs.length())));
        }
        return all.toString();
    }

    private String lines() {
        StringBuilder all = new StringBuilder();
        int maps = 1 + upTo(random.nextInt(8) == 0 ? 9 : 2);
        for (int m = 0; m < maps; m++) {
            int columns = random.nextInt(4) == 0 ? 80 : 20 + upTo(20);
            all.append(line("M", 1 + (random.nextInt(9) == 0 ? upTo(3) : m), 1 + upTo(4), columns));
            fields(all, columns);
        }
        if (random.nextInt(12) == 0) {
            all.setCharAt(random.nextInt(all.length()), (char) (32 + upTo(94)));
        }
        return all.toString();
    }

    private void fields(StringBuilder all, int columns) {
        int row = 1;
        int column = 1;
        int fields = random.nextInt(40) == 0 ? 32 : upTo(5);
        for (int i = 1; i <= fields; i++) {
            int length = fields == 32 ? 1 : random.nextInt(9) == 0 ? upTo(20) : 1 + upTo(4);
            if (column + length > columns || random.nextInt(6) == 0) {
                row++;
                column = 1 + (random.nextInt(3) == 0 ? upTo(9) : 0);
            }
            if (random.nextInt(25) == 0) {
                column = Math.max(1, column - upTo(4));
            }
            int name = random.nextInt(4) == 0 ? 0 : random.nextInt(40) == 0 ? 1 : i;
            all.append(line("F", name, row, column, length, random.nextInt(60) == 0 ? 16 : upTo(15)));
            column += (length + 1) * rest(all, name, length);
        }
    }

    /** The lines behind a field's; answers how many times it occurs. */
    private int rest(StringBuilder all, int name, int length) {
        int times = 1;
        boolean label = name == 0 && random.nextInt(40) != 0;
        for (int i = upTo(4); i > 0; i--) {
            int kind = random.nextInt(7);
            if (kind == 0 && !label) {
                times = 1 + upTo(3);
                all.append(line("O", times));
            } else if (kind == 1 && !label) {
                all.append(line("G", 1 + upTo(20)));
            } else if (kind == 2 && !label) {
                all.append(line("P", upTo(Math.max(0, length - 1)), upTo(1), upTo(1)));
            } else if (kind == 3 && !label) {
                all.append(line("V", 1 + upTo(2)));
            } else if (kind == 4 && random.nextInt(3) == 0) {
                all.append(line("C"));
            } else if (kind == 5 && length > 0) {
                all.append("I ").append(shown(1 + upTo(length - 1))).append('\n');
            } else if (kind == 6) {
                all.append(random.nextBoolean() ? "* note\n" : "\n");
            }
        }
        return times;
    }

    private String shown(int length) {
        StringBuilder all = new StringBuilder();
        for (int i = 0; i < length; i++) {
            all.append(random.nextInt(4) == 0 ? ' ' : (char) (33 + upTo(93)));
        }
        return all.toString();
    }

    private String line(String word, int... numbers) {
        StringBuilder all = new StringBuilder(random.nextInt(9) == 0 ? "  " : "").append(word);
        for (int n : numbers) {
            all.append(random.nextInt(9) == 0 ? "  " : " ").append(random.nextInt(20) == 0 ? "0" : "").append(n);
        }
        return all.append(random.nextInt(9) == 0 ? " \n" : "\n").toString();
    }

    private void ask() {
        int map = around(1, 2);
        int name = around(1, 5);
        switch (random.nextInt(10)) {
            case 0: askField(map, around(0, 4), around(0, 9)); break;
            case 1: askLayout(map, around(0, 5), around(0, 3)); break;
            case 2: askScreen(map, around(1, 3), around(1, 30)); break;
            case 3:
            case 4: askFill(map, name, random.nextInt() >> random.nextInt(32)); break;
            case 5: askTake(map); break;
            case 6: askDiffer(around(1, 4)); break;
            case 7: askProgram(map, around(1, 4)); break;
            case 8: askGroup(map, name); break;
            default: askTold(around(0, 5)); break;
        }
    }

    private void askField(int map, int i, int what) {
        Check.due(run + "field(" + map + ", " + i + ", " + what + ")", x.field(map, i, what),
            model.field(map, i, what));
    }

    private void askLayout(int map, int name, int what) {
        Check.due(run + "layout(" + map + ", " + name + ", " + what + ")", x.layout(map, name, what),
            model.layout(map, name, what));
    }

    private void askScreen(int map, int row, int column) {
        Check.due(run + "screen(" + map + ", " + row + ", " + column + ")", x.screen(map, row, column),
            model.screen(map, row, column));
    }

    private void askFill(int map, int name, int v) {
        int length = model.fill(map, name, v);
        Check.due(run + "fill(" + map + ", " + name + ", " + v + ")", x.fill(map, name, v), length);
        for (int i = -1; i <= Math.max(0, length) && x.left() > 0; i++) {
            Check.due(run + "octet(" + i + ") behind fill of " + v, x.octet(i), model.octet(i));
        }
    }

    private void askTake(int map) {
        int bytes = random.nextInt(6) == 0 ? 1 + upTo(9) : Math.max(1, model.layout(map, 0, 0) + upTo(2) - 1);
        for (int i = 0; i < bytes && x.left() >= 2; i++) {
            byte b = someByte();
            Check.due(run + "take(" + map + ", " + b + ")", x.take(map, b), model.take(map, b));
            Check.due(run + "told(5)", x.told(5), model.told(5));
        }
    }

    /** Mostly noughts, small counts and digits, so that many fields are good. */
    private byte someByte() {
        int how = random.nextInt(20);
        if (how == 0) {
            return (byte) random.nextInt();
        }
        return (byte) (how < 10 ? 0 : how < 15 ? upTo(3) : '0' + upTo(9));
    }

    private void askDiffer(int edition) {
        Check.due(run + "differ(" + edition + ")", x.differ(edition), model.differ(edition));
    }

    private void askProgram(int map, int edition) {
        Check.due(run + "program(" + map + ", " + edition + ")", x.program(map, edition), model.program(map, edition));
    }

    private void askGroup(int map, int name) {
        Check.due(run + "group(" + map + ", " + name + ")", x.group(map, name), model.group(map, name));
    }

    private void askTold(int what) {
        Check.due(run + "told(" + what + ")", x.told(what), model.told(what));
    }
}
