import java.math.BigInteger;
import java.util.ArrayDeque;
import java.util.ArrayList;
import java.util.Deque;
import java.util.HashMap;
import java.util.HashSet;
import java.util.List;
import java.util.Map;
import java.util.Objects;
import java.util.Set;
import java.util.TreeMap;
import java.util.TreeSet;

/** The document once more, as plainly as can be and by other ways than the program: trees, big numbers, maps. */
final class Model {
    static final int REFUSED = -1;
    static final int BAD = -2;

    /** An ERROR as VALUE. */
    record Err(int number) {
    }

    /** A RANGE as argument. */
    record Area(int left, int top, int right, int bottom) {
    }

    private static final class Ref {
        int column;
        int row;
        boolean fixedColumn;
        boolean fixedRow;
        boolean gone;
        /** 0 alone, 1 and 2 a RANGE's corners. */
        int corner;

        Ref copy() {
            Ref other = new Ref();
            other.column = column;
            other.row = row;
            other.fixedColumn = fixedColumn;
            other.fixedRow = fixedRow;
            other.gone = gone;
            other.corner = corner;
            return other;
        }
    }

    private static final class Node {
        final String what;
        final List<Node> parts = new ArrayList<>();
        Object constant;
        int ref;

        Node(String what, Node... parts) {
            this.what = what;
            this.parts.addAll(List.of(parts));
        }
    }

    private static final class Cell {
        Object constant;
        boolean formula;
        /** null: SYNTAX. */
        Node root;
        final List<Ref> refs = new ArrayList<>();

        Cell copy() {
            Cell other = new Cell();
            other.constant = constant;
            other.formula = formula;
            other.root = root;
            for (Ref ref : refs) {
                other.refs.add(ref.copy());
            }
            return other;
        }
    }

    private static final class Wrong extends RuntimeException {
        private static final long serialVersionUID = 1L;
    }

    private TreeMap<Integer, Cell> cells = new TreeMap<>();
    private final Deque<TreeMap<Integer, Cell>> undos = new ArrayDeque<>();
    private final Deque<TreeMap<Integer, Cell>> redos = new ArrayDeque<>();
    private Map<Integer, Object> values = new HashMap<>();
    private Set<Integer> circular = new HashSet<>();
    List<Integer> changed = new ArrayList<>();
    int done;

    // What is asked.

    Object value(int place) {
        return values.get(place);
    }

    int kind(int place) {
        Cell cell = cells.get(place);
        return cell == null ? 0 : cell.formula ? 3 : cell.constant instanceof Long ? 1 : 2;
    }

    List<Integer> refs(int place) {
        List<Integer> all = new ArrayList<>();
        if (cells.containsKey(place)) {
            for (Ref ref : cells.get(place).refs) {
                all.add(ref.gone ? -1 : ref.column + 26 * ref.row);
            }
        }
        return all;
    }

    String counts() {
        int formulas = 0;
        int cycles = 0;
        for (int place : cells.keySet()) {
            formulas += cells.get(place).formula ? 1 : 0;
            cycles += new Err(8).equals(values.get(place)) ? 1 : 0;
        }
        return "0 " + changed.size() + " " + undos.size() + " " + redos.size() + " " + cells.size() + " " + formulas
                + " " + cycles + " " + done;
    }

    // EDITS.

    int put(int place, String text) {
        Cell cell;
        try {
            cell = typed(text);
        } catch (Wrong e) {
            return BAD;
        }
        TreeMap<Integer, Cell> next = copied();
        next.remove(place);
        if (cell != null) {
            next.put(place, cell);
        }
        return edited(next);
    }

    int fill(int from, int c, int r, int d, int s) {
        TreeMap<Integer, Cell> next = copied();
        Cell source = cells.get(from);
        for (int row = r; row <= s; row++) {
            for (int column = c; column <= d; column++) {
                int place = column + 26 * row;
                next.remove(place);
                if (source != null) {
                    next.put(place, moved(source, column - from % 26, row - from / 26));
                }
            }
        }
        return edited(next);
    }

    private static Cell moved(Cell source, int right, int down) {
        Cell cell = source.copy();
        for (Ref ref : cell.refs) {
            ref.column += ref.fixedColumn ? 0 : right;
            ref.row += ref.fixedRow ? 0 : down;
            ref.gone |= ref.column < 0 || ref.column > 25 || ref.row < 0 || ref.row > 199;
        }
        joinCorners(cell);
        return cell;
    }

    private static void joinCorners(Cell cell) {
        for (int i = 0; i < cell.refs.size(); i++) {
            if (cell.refs.get(i).corner == 1) {
                boolean gone = cell.refs.get(i).gone || cell.refs.get(i + 1).gone;
                cell.refs.get(i).gone = gone;
                cell.refs.get(i + 1).gone = gone;
            }
        }
    }

    /** n below 0: erase -n. */
    int shift(boolean columns, int i, int n) {
        TreeMap<Integer, Cell> next = new TreeMap<>();
        for (int place : cells.keySet()) {
            int column = columns ? line(place % 26, i, n, 26) : place % 26;
            int row = columns ? place / 26 : line(place / 26, i, n, 200);
            if (column < 0 || row < 0) {
                if (n > 0) {
                    return REFUSED;
                }
                continue;
            }
            next.put(column + 26 * row, shifted(cells.get(place), columns, i, n));
        }
        return edited(next);
    }

    /** Where a line comes to be, -1 if it leaves or goes. */
    private static int line(int line, int i, int n, int lines) {
        if (line < i) {
            return line;
        }
        if (n < 0 && line < i - n) {
            return -1;
        }
        return line + n < lines ? line + n : -1;
    }

    private static Cell shifted(Cell old, boolean columns, int i, int n) {
        Cell cell = old.copy();
        int lines = columns ? 26 : 200;
        for (int k = 0; k < cell.refs.size(); k++) {
            Ref ref = cell.refs.get(k);
            if (ref.gone) {
                continue;
            }
            if (ref.corner == 0) {
                int line = line(columns ? ref.column : ref.row, i, n, lines);
                ref.gone = line < 0;
                setLine(ref, columns, line);
            } else if (ref.corner == 1) {
                shiftRange(ref, cell.refs.get(k + 1), columns, i, n);
            } else if (ref.corner != 2) {
                throw new IllegalStateException();
            }
        }
        joinCorners(cell);
        return cell;
    }

    private static void setLine(Ref ref, boolean columns, int line) {
        if (columns) {
            ref.column = line;
        } else {
            ref.row = line;
        }
    }

    private static void shiftRange(Ref one, Ref other, boolean columns, int i, int n) {
        int lines = columns ? 26 : 200;
        int a = columns ? one.column : one.row;
        int b = columns ? other.column : other.row;
        TreeSet<Integer> left = new TreeSet<>();
        for (int line = Math.min(a, b); line <= Math.max(a, b); line++) {
            if (line(line, i, n, lines) >= 0) {
                left.add(line(line, i, n, lines));
            }
        }
        if (left.isEmpty()) {
            one.gone = true;
            return;
        }
        if (n > 0 && line(Math.max(a, b), i, n, lines) < 0) {
            left.add(lines - 1);
        }
        setLine(one, columns, a <= b ? left.first() : left.last());
        setLine(other, columns, a <= b ? left.last() : left.first());
    }

    int undo() {
        if (undos.isEmpty()) {
            return REFUSED;
        }
        redos.push(cells);
        return follow(undos.pop());
    }

    int redo() {
        if (redos.isEmpty()) {
            return REFUSED;
        }
        undos.push(cells);
        return follow(redos.pop());
    }

    private TreeMap<Integer, Cell> copied() {
        TreeMap<Integer, Cell> next = new TreeMap<>();
        for (int place : cells.keySet()) {
            next.put(place, cells.get(place).copy());
        }
        return next;
    }

    private int edited(TreeMap<Integer, Cell> next) {
        long inRanges = 0;
        for (Cell cell : next.values()) {
            for (int i = 0; i < cell.refs.size(); i++) {
                if (cell.refs.get(i).corner == 1 && !cell.refs.get(i).gone) {
                    Area area = area(cell.refs.get(i), cell.refs.get(i + 1));
                    inRanges += (long) (area.right - area.left + 1) * (area.bottom - area.top + 1);
                }
            }
        }
        if (next.size() > 400 || inRanges > 20000) {
            return REFUSED;
        }
        undos.push(cells);
        if (undos.size() > 40) {
            undos.removeLast();
        }
        redos.clear();
        return follow(next);
    }

    private int follow(TreeMap<Integer, Cell> next) {
        cells = next;
        done++;
        Map<Integer, Object> before = values;
        values = new HashMap<>();
        findCircular();
        for (int place : cells.keySet()) {
            work(place);
        }
        changed = new ArrayList<>();
        for (int place = 0; place < 5200; place++) {
            if (!Objects.equals(before.get(place), values.get(place))) {
                changed.add(place);
            }
        }
        return changed.size();
    }

    // Reading one another.

    private static Area area(Ref one, Ref other) {
        return new Area(Math.min(one.column, other.column), Math.min(one.row, other.row),
                Math.max(one.column, other.column), Math.max(one.row, other.row));
    }

    private Set<Integer> reads(int place) {
        Set<Integer> all = new TreeSet<>();
        List<Ref> refs = cells.get(place).refs;
        for (int i = 0; i < refs.size(); i++) {
            Ref ref = refs.get(i);
            if (ref.gone || ref.corner == 2) {
                continue;
            }
            Area area = area(ref, ref.corner == 1 ? refs.get(i + 1) : ref);
            for (int row = area.top; row <= area.bottom; row++) {
                for (int column = area.left; column <= area.right; column++) {
                    if (cells.containsKey(column + 26 * row)) {
                        all.add(column + 26 * row);
                    }
                }
            }
        }
        return all;
    }

    private void findCircular() {
        circular = new HashSet<>();
        Map<Integer, Set<Integer>> reads = new HashMap<>();
        for (int place : cells.keySet()) {
            reads.put(place, reads(place));
        }
        for (int place : cells.keySet()) {
            Set<Integer> seen = new HashSet<>();
            Deque<Integer> open = new ArrayDeque<>(reads.get(place));
            while (!open.isEmpty()) {
                int next = open.pop();
                if (seen.add(next)) {
                    open.addAll(reads.get(next));
                }
            }
            if (seen.contains(place)) {
                circular.add(place);
            }
        }
    }

    private Object work(int place) {
        Cell cell = cells.get(place);
        if (cell == null) {
            return null;
        }
        if (!values.containsKey(place)) {
            Object value = cell.constant;
            if (circular.contains(place)) {
                value = new Err(8);
            } else if (cell.formula) {
                value = cell.root == null ? new Err(1) : work(cell, cell.root);
                value = value == null ? Long.valueOf(0) : value;
            }
            values.put(place, value);
        }
        return values.get(place);
    }

    // Working out.

    private static final BigInteger LEAST = BigInteger.valueOf(Long.MIN_VALUE);
    private static final BigInteger MOST = BigInteger.valueOf(Long.MAX_VALUE);
    private static final Map<String, String> FUNCTIONS = functions();

    private static Map<String, String> functions() {
        Map<String, String> all = new HashMap<>();
        for (String one : ("SUM r,PRODUCT r,MIN r,MAX r,AVERAGE r,COUNT r,COUNTA r,AND bb,OR bb,NOT b,IF bxx,IFERROR xx,"
                + "CHOOSE nxxx,ISERROR x,ISNUMBER x,ISTEXT x,ISBLANK x,ABS n,SIGN n,MOD nn,LEN t,UPPER t,LOWER t,"
                + "LEFT tn,RIGHT tn,MID tnn,FIND tt,REPLACE ttt,ROW r,COLUMN r,ROWS r,COLUMNS r,NA ,INDEX rnn,"
                + "MATCH xr,LOOKUP xrn,SUMIF rx,COUNTIF rx").split(",")) {
            String[] two = one.split(" ");
            all.put(two[0], two.length > 1 ? two[1] : "");
        }
        return all;
    }

    private Object work(Cell cell, Node node) {
        switch (node.what) {
            case "constant":
                return node.constant;
            case "ref":
                Ref ref = cell.refs.get(node.ref);
                return ref.gone ? new Err(2) : work(ref.column + 26 * ref.row);
            case "call":
                return call(cell, node);
            case "bracket":
                return work(cell, node.parts.get(0));
            default:
                return operator(cell, node);
        }
    }

    private Object operator(Cell cell, Node node) {
        List<Object> given = new ArrayList<>();
        for (Node part : node.parts) {
            given.add(work(cell, part));
        }
        for (Object one : given) {
            if (one instanceof Err) {
                return one;
            }
        }
        boolean compares = "= <> < <= > >=".contains(node.what);
        String as = compares ? "x" : node.what.equals("&") ? "t" : "n";
        for (int i = 0; i < given.size(); i++) {
            given.set(i, as(given.get(i), as.charAt(0)));
            if (given.get(i) instanceof Err) {
                return given.get(i);
            }
        }
        if (compares) {
            return compared(node.what, compare(given.get(0), given.get(1)));
        }
        if (node.what.equals("&")) {
            return text((String) given.get(0) + given.get(1));
        }
        BigInteger a = BigInteger.valueOf((Long) given.get(0));
        BigInteger b = given.size() > 1 ? BigInteger.valueOf((Long) given.get(1)) : null;
        switch (node.what) {
            case "+":
                return number(a.add(b));
            case "-":
                return number(a.subtract(b));
            case "*":
                return number(a.multiply(b));
            case "/":
                return b.signum() == 0 ? new Err(5) : number(a.divide(b));
            case "^":
                return power(a, b);
            case "%":
                return number(a.divide(BigInteger.valueOf(100)));
            case "neg":
                return number(a.negate());
            default:
                throw new IllegalStateException(node.what);
        }
    }

    private static Object power(BigInteger a, BigInteger b) {
        if (b.signum() < 0) {
            return new Err(6);
        }
        if (a.bitLength() <= 1 && a.abs().compareTo(BigInteger.ONE) <= 0) {
            boolean even = !b.testBit(0);
            return b.signum() == 0 ? Long.valueOf(1) : number(even ? a.abs() : a);
        }
        return b.bitLength() > 10 ? new Err(6) : number(a.pow(b.intValue()));
    }

    private static Object number(BigInteger a) {
        return a.compareTo(LEAST) < 0 || a.compareTo(MOST) > 0 ? new Err(6) : (Object) a.longValue();
    }

    private static Object text(String text) {
        return text.length() > 64 ? new Err(4) : (Object) text;
    }

    private static boolean compared(String sign, int order) {
        switch (sign) {
            case "=":
                return order == 0;
            case "<>":
                return order != 0;
            case "<":
                return order < 0;
            case "<=":
                return order <= 0;
            case ">":
                return order > 0;
            default:
                return order >= 0;
        }
    }

    private static Object zeroLike(Object other) {
        if (other instanceof String) {
            return "";
        }
        return other instanceof Boolean ? (Object) false : Long.valueOf(0);
    }

    private static int rank(Object value) {
        return value instanceof Long ? 0 : value instanceof String ? 1 : 2;
    }

    private static int compare(Object a, Object b) {
        Object one = a == null ? zeroLike(b) : a;
        Object other = b == null ? zeroLike(a) : b;
        if (rank(one) != rank(other)) {
            return rank(one) - rank(other);
        }
        if (one instanceof Long) {
            return ((Long) one).compareTo((Long) other);
        }
        return one instanceof String ? ((String) one).compareTo((String) other) : ((Boolean) one).compareTo((Boolean) other);
    }

    private static Object as(Object value, char asked) {
        switch (asked) {
            case 'n':
                if (value instanceof String) {
                    Long number = typedNumber((String) value);
                    return number == null ? new Err(4) : (Object) number;
                }
                return value instanceof Boolean ? (Object) ((Boolean) value ? 1L : 0L) : value == null ? (Object) 0L : value;
            case 't':
                return value == null ? "" : value instanceof Boolean ? ((Boolean) value ? "TRUE" : "FALSE") : value.toString();
            case 'b':
                if (value instanceof String) {
                    return new Err(4);
                }
                return value instanceof Long ? (Object) ((Long) value != 0) : value == null ? (Object) false : value;
            default:
                return value;
        }
    }

    private static Long typedNumber(String text) {
        if (!text.matches("-?[0-9]+")) {
            return null;
        }
        BigInteger number = new BigInteger(text);
        return number(number) instanceof Err ? null : (Long) number.longValue();
    }

    private Object call(Cell cell, Node node) {
        String takes = FUNCTIONS.get((String) node.constant);
        if (takes == null) {
            return new Err(3);
        }
        if (takes.length() != node.parts.size()) {
            return new Err(4);
        }
        for (int i = 0; i < takes.length(); i++) {
            String what = node.parts.get(i).what;
            boolean r = takes.charAt(i) == 'r';
            if (r && !what.equals("range") && !what.equals("ref") || !r && what.equals("range")) {
                return new Err(4);
            }
        }
        switch ((String) node.constant) {
            case "IF":
                Object truth = asOrError(work(cell, node.parts.get(0)), 'b');
                return truth instanceof Err ? truth : work(cell, node.parts.get((Boolean) truth ? 1 : 2));
            case "IFERROR":
                Object first = work(cell, node.parts.get(0));
                return first instanceof Err ? work(cell, node.parts.get(1)) : first;
            case "CHOOSE":
                Object index = asOrError(work(cell, node.parts.get(0)), 'n');
                if (index instanceof Err) {
                    return index;
                }
                long n = (Long) index;
                return n < 1 || n > 3 ? new Err(4) : work(cell, node.parts.get((int) n));
            default:
                return function(cell, node, takes);
        }
    }

    private static Object asOrError(Object value, char asked) {
        return value instanceof Err ? value : as(value, asked);
    }

    private Object function(Cell cell, Node node, String takes) {
        String name = (String) node.constant;
        List<Object> given = new ArrayList<>();
        for (int i = 0; i < takes.length(); i++) {
            given.add(takes.charAt(i) == 'r' ? argumentArea(cell, node.parts.get(i)) : work(cell, node.parts.get(i)));
        }
        switch (name) {
            case "ISERROR":
                return given.get(0) instanceof Err;
            case "ISNUMBER":
                return given.get(0) instanceof Long;
            case "ISTEXT":
                return given.get(0) instanceof String;
            case "ISBLANK":
                return given.get(0) == null;
            default:
                break;
        }
        for (Object one : given) {
            if (one instanceof Err) {
                return one;
            }
        }
        for (int i = 0; i < takes.length(); i++) {
            given.set(i, as(given.get(i), takes.charAt(i)));
            if (given.get(i) instanceof Err) {
                return given.get(i);
            }
        }
        Object scalar = scalar(name, given);
        return scalar != this ? scalar : overArea(name, given);
    }

    private Object argumentArea(Cell cell, Node part) {
        Ref one = cell.refs.get(part.ref);
        Ref other = part.what.equals("range") ? cell.refs.get(part.ref + 1) : one;
        return one.gone ? new Err(2) : area(one, other);
    }

    /** Of FUNCTIONS without r; this if it is another. */
    private Object scalar(String name, List<Object> given) {
        Object a = given.size() > 0 ? given.get(0) : null;
        Object b = given.size() > 1 ? given.get(1) : null;
        Object c = given.size() > 2 ? given.get(2) : null;
        switch (name) {
            case "AND":
                return (Boolean) a && (Boolean) b;
            case "OR":
                return (Boolean) a || (Boolean) b;
            case "NOT":
                return !(Boolean) a;
            case "ABS":
                return number(BigInteger.valueOf((Long) a).abs());
            case "SIGN":
                return (long) BigInteger.valueOf((Long) a).signum();
            case "MOD":
                return (Long) b == 0 ? new Err(5) : (Object) floorMod(BigInteger.valueOf((Long) a), BigInteger.valueOf((Long) b));
            case "LEN":
                return (long) ((String) a).length();
            case "UPPER":
                return ((String) a).toUpperCase(java.util.Locale.ROOT);
            case "LOWER":
                return ((String) a).toLowerCase(java.util.Locale.ROOT);
            case "LEFT":
                return mid((String) a, 1, (Long) b);
            case "RIGHT":
                return (Long) b < 0 ? new Err(4) : ((String) a).substring(Math.max(0, ((String) a).length() - (int) Math.min(100, (Long) b)));
            case "MID":
                return mid((String) a, (Long) b, (Long) c);
            case "FIND":
                int found = ((String) b).indexOf((String) a);
                return found < 0 ? new Err(4) : (Object) (found + 1L);
            case "REPLACE":
                return text(((String) b).isEmpty() ? (String) a : ((String) a).replace((String) b, (String) c));
            case "NA":
                return new Err(7);
            default:
                return this;
        }
    }

    private static long floorMod(BigInteger n, BigInteger m) {
        BigInteger[] both = n.divideAndRemainder(m);
        boolean down = both[1].signum() != 0 && both[1].signum() != m.signum();
        BigInteger quotient = down ? both[0].subtract(BigInteger.ONE) : both[0];
        return n.subtract(m.multiply(quotient)).longValueExact();
    }

    private static Object mid(String text, long from, long many) {
        if (from < 1 || many < 0) {
            return new Err(4);
        }
        int start = (int) Math.min(from - 1, text.length());
        int end = (int) Math.min(start + Math.min(many, 100), text.length());
        return text.substring(start, end);
    }

    private List<Object> inside(Area area) {
        List<Object> all = new ArrayList<>();
        for (int row = area.top; row <= area.bottom; row++) {
            for (int column = area.left; column <= area.right; column++) {
                all.add(work(column + 26 * row));
            }
        }
        return all;
    }

    private Object overArea(String name, List<Object> given) {
        Area area = (Area) (given.get(0) instanceof Area ? given.get(0) : given.get(1));
        Object sought = given.get(0) instanceof Area ? given.size() > 1 ? given.get(1) : null : given.get(0);
        List<Object> inside = inside(area);
        long rows = area.bottom - area.top + 1;
        long columns = area.right - area.left + 1;
        switch (name) {
            case "ROW":
                return area.top + 1L;
            case "COLUMN":
                return area.left + 1L;
            case "ROWS":
                return rows;
            case "COLUMNS":
                return columns;
            case "COUNT":
                return inside.stream().filter(v -> v instanceof Long).count();
            case "COUNTA":
                return inside.stream().filter(v -> v != null).count();
            case "INDEX":
                return at(area, (Long) given.get(1), (Long) given.get(2));
            case "MATCH":
                for (int i = 0; i < inside.size(); i++) {
                    if (isSo(inside.get(i), sought)) {
                        return i + 1L;
                    }
                }
                return new Err(7);
            case "LOOKUP":
                for (int row = 0; row < rows; row++) {
                    if (isSo(inside.get((int) (row * columns)), sought)) {
                        return at(area, row + 1, (Long) given.get(2));
                    }
                }
                return new Err(7);
            case "COUNTIF":
                return inside.stream().filter(v -> isSo(v, sought)).count();
            case "SUMIF":
                List<Object> so = new ArrayList<>();
                inside.stream().filter(v -> isSo(v, sought)).forEach(so::add);
                return gathered("SUM", so);
            default:
                return gathered(name, inside);
        }
    }

    private Object at(Area area, long row, long column) {
        boolean there = row >= 1 && column >= 1 && row <= area.bottom - area.top + 1
                && column <= area.right - area.left + 1;
        return there ? work((int) (area.left + column - 1 + 26 * (area.top + row - 1))) : new Err(2);
    }

    private static boolean isSo(Object value, Object sought) {
        return !(value instanceof Err) && compare(value, sought) == 0;
    }

    private static Object gathered(String name, List<Object> inside) {
        for (Object value : inside) {
            if (value instanceof Err) {
                return value;
            }
        }
        BigInteger sum = BigInteger.ZERO;
        BigInteger product = BigInteger.ONE;
        List<Long> numbers = new ArrayList<>();
        for (Object value : inside) {
            if (value instanceof Long) {
                numbers.add((Long) value);
                sum = sum.add(BigInteger.valueOf((Long) value));
                product = product.multiply(BigInteger.valueOf((Long) value));
                boolean sums = name.equals("SUM") || name.equals("AVERAGE");
                if (sums && number(sum) instanceof Err || name.equals("PRODUCT") && number(product) instanceof Err) {
                    return new Err(6);
                }
            }
        }
        switch (name) {
            case "SUM":
                return number(sum);
            case "PRODUCT":
                return number(product);
            case "MIN":
                return numbers.stream().min(Long::compare).orElse(0L);
            case "MAX":
                return numbers.stream().max(Long::compare).orElse(0L);
            case "AVERAGE":
                return numbers.isEmpty() ? new Err(5) : number(sum.divide(BigInteger.valueOf(numbers.size())));
            default:
                throw new IllegalStateException(name);
        }
    }

    // Reading what was typed.

    private static Cell typed(String text) {
        if (!text.matches("[ -~]*")) {
            throw new Wrong();
        }
        if (text.isEmpty()) {
            return null;
        }
        Cell cell = new Cell();
        if (typedNumber(text) != null) {
            cell.constant = typedNumber(text);
        } else if (text.startsWith("=")) {
            if (text.length() > 201) {
                throw new Wrong();
            }
            cell.formula = true;
            try {
                cell.root = new Parser(text.substring(1), cell.refs).whole();
            } catch (Wrong e) {
                cell.refs.clear();
            }
        } else if (text.length() > 64) {
            throw new Wrong();
        } else {
            cell.constant = text;
        }
        return cell;
    }

    /** By a method for each level of the grammar; depths are counted over the TOKENS afterwards. */
    private static final class Parser {
        private static final String REF = "\\$?[A-Z]\\$?([1-9]|[1-9][0-9]|1[0-9][0-9]|200)";
        private final List<String> tokens = new ArrayList<>();
        private final List<Ref> refs;
        private final int[] depth;
        private int at;

        Parser(String text, List<Ref> refs) {
            this.refs = refs;
            java.util.regex.Matcher matcher = java.util.regex.Pattern.compile(
                    "( +)|([A-Za-z0-9$]+)|(\"[^\"]*\")|(<>|<=|>=|[-=<>&+*/^%(),:])|(.)").matcher(text);
            while (matcher.find()) {
                if (matcher.group(5) != null) {
                    throw new Wrong();
                }
                if (matcher.group(1) == null) {
                    tokens.add(matcher.group());
                }
            }
            depth = new int[tokens.size()];
            if (tokens.size() > 100) {
                throw new Wrong();
            }
            for (String token : tokens) {
                boolean string = token.startsWith("\"");
                boolean word = token.matches("[A-Za-z0-9$]+");
                if (string && token.length() > 66 || word && !isWord(token)) {
                    throw new Wrong();
                }
            }
        }

        private static boolean isWord(String token) {
            return typedNumber(token) != null || token.matches(REF) || token.matches("[A-Z]{2,12}");
        }

        Node whole() {
            Node node = level(0);
            if (at != tokens.size()) {
                throw new Wrong();
            }
            for (int one : depth) {
                if (one > 20) {
                    throw new Wrong();
                }
            }
            return node;
        }

        private String peek(int further) {
            return at + further < tokens.size() ? tokens.get(at + further) : "";
        }

        private void expect(String token) {
            if (!peek(0).equals(token)) {
                throw new Wrong();
            }
            at++;
        }

        private static final List<Set<String>> LEVELS = List.of(Set.of("=", "<>", "<", "<=", ">", ">="), Set.of("&"),
                Set.of("+", "-"), Set.of("*", "/"), Set.of("^"));

        private Node level(int level) {
            if (level == LEVELS.size()) {
                return minus();
            }
            Node left = level(level + 1);
            while (LEVELS.get(level).contains(peek(0))) {
                String sign = tokens.get(at++);
                left = new Node(sign, left, level(level + 1));
            }
            return left;
        }

        private Node minus() {
            if (!peek(0).equals("-")) {
                return percent();
            }
            at++;
            int from = at;
            Node inner = minus();
            deepen(from, at);
            return new Node("neg", inner);
        }

        private void deepen(int from, int to) {
            for (int i = from; i < to; i++) {
                depth[i]++;
            }
        }

        private Node percent() {
            Node node = primary();
            while (peek(0).equals("%")) {
                at++;
                node = new Node("%", node);
            }
            return node;
        }

        private Node primary() {
            String token = peek(0);
            at++;
            Node constant = new Node("constant");
            if (token.startsWith("\"")) {
                constant.constant = token.substring(1, token.length() - 1);
                return constant;
            }
            if (token.equals("TRUE") || token.equals("FALSE")) {
                constant.constant = token.equals("TRUE");
                return constant;
            }
            if (token.matches("[0-9]+")) {
                constant.constant = typedNumber(token);
                return constant;
            }
            if (token.matches(REF)) {
                return ref("ref", token, 0);
            }
            if (token.equals("(")) {
                int from = at;
                Node inner = level(0);
                deepen(from, at);
                expect(")");
                // A REF in ( ) is no REF where r stands; elsewhere it is the same.
                return inner.what.equals("ref") ? new Node("bracket", inner) : inner;
            }
            if (token.matches("[A-Z]{2,12}")) {
                return call(token);
            }
            throw new Wrong();
        }

        private Node ref(String what, String token, int corner) {
            Ref ref = new Ref();
            ref.fixedColumn = token.startsWith("$");
            ref.fixedRow = token.lastIndexOf('$') > 0;
            String plain = token.replace("$", "");
            ref.column = plain.charAt(0) - 'A';
            ref.row = Integer.parseInt(plain.substring(1)) - 1;
            ref.corner = corner;
            Node node = new Node(what);
            node.ref = refs.size();
            refs.add(ref);
            return node;
        }

        private Node call(String name) {
            expect("(");
            Node node = new Node("call");
            node.constant = name;
            int from = at;
            if (!peek(0).equals(")")) {
                node.parts.add(argument());
                while (peek(0).equals(",")) {
                    at++;
                    node.parts.add(argument());
                }
            }
            deepen(from, at);
            expect(")");
            return node;
        }

        private Node argument() {
            if (peek(0).matches(REF) && peek(1).equals(":") && peek(2).matches(REF)
                    && (peek(3).equals(",") || peek(3).equals(")"))) {
                Node node = ref("range", peek(0), 1);
                ref("range", peek(2), 2);
                at += 3;
                return node;
            }
            return level(0);
        }
    }
}
