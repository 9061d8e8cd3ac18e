import java.util.List;
import java.util.Random;

/**
 * Long runs of calls by fixed seeds, all promises together: the program answers as the model does. They make
 * more calls than the 512 that are promised, to see all CELLS: the program minds only how much was TYPED.
 */
public final class RandomRunsTest {
    private final Sheet sheet = new Sheet();
    private final Model model = new Model();
    private final Random random;
    private final Formulas formulas;
    private final int left;
    private final int top;
    private final String name;
    /** Fills many CELLS, so that the limits are met. */
    private final boolean big;
    private int calls;

    private RandomRunsTest(int seed) {
        name = "seed " + seed;
        random = new Random(seed);
        left = new int[] {0, 11, 22}[random.nextInt(3)];
        top = new int[] {0, 97, 194}[random.nextInt(3)];
        formulas = new Formulas(random, left, top, seed % 5 == 0 ? 1 : 40);
        big = seed % 5 == 1;
    }

    public static void main(String[] args) {
        int first = args.length > 0 ? Integer.parseInt(args[0]) : 1;
        int last = args.length > 1 ? Integer.parseInt(args[1]) : 400;
        for (int seed = first; seed <= last && Check.allRight(); seed++) {
            new RandomRunsTest(seed).run();
        }
        Check.finish();
    }

    private void run() {
        int edits = 20 + random.nextInt(big ? 80 : 40);
        for (int i = 0; i < edits && Check.allRight(); i++) {
            step();
            compareAll();
        }
        for (int place = 0; place < 5200 && Check.allRight(); place++) {
            compareCell(place);
        }
    }

    private int column() {
        return random.nextInt(30) == 0 ? random.nextInt(26) : left + random.nextInt(4);
    }

    private int row() {
        return random.nextInt(30) == 0 ? random.nextInt(200) : top + random.nextInt(6);
    }

    private void step() {
        calls++;
        switch (random.nextInt(14)) {
            case 0:
                fill();
                break;
            case 1:
                shift(random.nextBoolean(), true);
                break;
            case 2:
                shift(random.nextBoolean(), false);
                break;
            case 3:
            case 4:
                undoSome(1 + random.nextInt(3));
                break;
            case 5:
                undoSome(1 + random.nextInt(6));
                redoSome(1 + random.nextInt(6));
                break;
            default:
                put();
                break;
        }
    }

    private void undoSome(int many) {
        for (int i = 0; i < many; i++) {
            compare("undo", sheet.undo(), model.undo());
        }
    }

    private void redoSome(int many) {
        for (int i = 0; i < many; i++) {
            compare("redo", sheet.redo(), model.redo());
        }
    }

    private void put() {
        String text = formulas.content();
        int column = column();
        int row = row();
        sheet.type(text);
        String got = Sheet.of(() -> sheet.ledger.put(column, row));
        compare("put " + Sheet.name(column + 26 * row) + " " + text, got, model.put(column + 26 * row, text));
    }

    private void fill() {
        boolean ofChanged = big && !model.changed.isEmpty();
        int from = ofChanged ? model.changed.get(random.nextInt(model.changed.size())) : column() + 26 * row();
        int c = column();
        int d = Math.min(25, c + random.nextInt(3));
        int r = big ? random.nextInt(40) : row();
        int s = Math.min(199, r + random.nextInt(big ? 199 : 4));
        String got = Sheet.of(() -> sheet.ledger.fill(from % 26, from / 26, c, r, d, s));
        compare("fill " + Sheet.name(from) + " " + Sheet.name(c + 26 * r) + " " + Sheet.name(d + 26 * s), got,
                model.fill(from, c, r, d, s));
    }

    private void shift(boolean columns, boolean inserting) {
        int lines = columns ? 26 : 200;
        int i = columns ? column() : row();
        int n = 1 + random.nextInt(random.nextInt(6) == 0 ? 50 : 3);
        if (!inserting) {
            n = Math.min(n, lines - i);
        }
        int many = n;
        String got = inserting ? sheet.insert(columns, i, many) : sheet.erase(columns, i, many);
        compare((inserting ? "insert " : "erase ") + columns + " " + i + " " + many, got,
                model.shift(columns, i, inserting ? many : -many));
    }

    private void compare(String what, String got, int due) {
        String expected = due == Model.BAD ? "IllegalArgumentException"
                : due == Model.REFUSED ? "IllegalStateException" : String.valueOf(due);
        Check.same(name + ", edit " + calls + ": " + what, got, expected);
    }

    private void compareAll() {
        String where = name + ", edit " + calls + ": ";
        Check.same(where + "counts", sheet.counts(), model.counts());
        for (int i = 0; i < model.changed.size() && Check.allRight(); i++) {
            Check.same(where + "changed " + i, sheet.ledger.changed(i), model.changed.get(i));
        }
        for (int row = top; row < Math.min(200, top + 12); row++) {
            for (int column = left; column < Math.min(26, left + 8) && Check.allRight(); column++) {
                compareCell(column + 26 * row);
            }
        }
    }

    private void compareCell(int place) {
        int column = place % 26;
        int row = place / 26;
        String where = name + ", edit " + calls + ": " + Sheet.name(place);
        Check.same(where, sheet.show(column, row), shown(model.value(place)));
        Check.same(where + " kind", sheet.ledger.content(column, row, 0), model.kind(place));
        List<Integer> refs = model.refs(place);
        Check.same(where + " refs", sheet.ledger.content(column, row, 1), refs.size());
        Check.same(where + " gone", sheet.ledger.content(column, row, 2), refs.stream().filter(r -> r < 0).count());
        for (int i = 0; i < refs.size() && Check.allRight(); i++) {
            Check.same(where + " ref " + i, sheet.ledger.reference(column, row, i), refs.get(i));
        }
    }

    private static String shown(Object value) {
        if (value == null) {
            return "empty";
        }
        if (value instanceof Model.Err) {
            String[] errors = {"", "#syntax", "#ref", "#name", "#value", "#div", "#num", "#none", "#cycle"};
            return errors[((Model.Err) value).number()];
        }
        if (value instanceof Boolean) {
            return (Boolean) value ? "TRUE" : "FALSE";
        }
        return value instanceof String ? "'" + value + "'" : value.toString();
    }
}
