import java.util.NoSuchElementException;

/** A spreadsheet whose VALUES follow all changes. All rows are made once, by the constructors. */
public final class GridLedger {
    private static final int WIDTH = 26;
    private static final int HEIGHT = 200;
    private static final int PLACES = WIDTH * HEIGHT;
    private static final int CALLS = 512;
    private static final int FED_BYTES = 20;
    private static final int INPUT_BYTES = 240;
    private static final int TEXT_BYTES = 64;
    private static final int FORMULA_BYTES = 200;
    private static final int TOKENS = 100;
    private static final int DEPTH = 20;
    private static final int REFS = TOKENS / 2;
    private static final int CELLS = 400;
    private static final int RANGE_CELLS = 20000;
    private static final int LINES_AT_ONCE = 50;
    private static final int UNDOS = 40;
    private static final int STATES = UNDOS + 1;

    /** Stands for a CELL without CONTENT where a number of an entry is asked. */
    private static final int NO_ENTRY = CELLS;
    private static final int GONE = -1;
    private static final int BAD = -1;
    private static final int NO_ROOM = -2;

    private static final int EMPTY = 0;
    private static final int NUMBER = 1;
    private static final int TEXT = 2;
    private static final int TRUTH = 3;
    private static final int ERROR = 4;
    private static final int BOX = 5;

    private static final int NOTHING = 0;
    private static final int FORMULA = 3;

    private static final int SYNTAX = 1;
    private static final int LOST_REF = 2;
    private static final int NO_NAME = 3;
    private static final int WRONG_VALUE = 4;
    private static final int BY_ZERO = 5;
    private static final int NO_LONG = 6;
    private static final int NONE = 7;
    private static final int CYCLE = 8;

    private static final int FIXED_COLUMN = 1;
    private static final int FIXED_ROW = 2;
    private static final int FIRST_CORNER = 4;
    private static final int SECOND_CORNER = 8;

    private final byte[] input;
    private int inputLength;
    private final Contents contents;
    private final Reader reader;
    private final Edits edits;
    private final Results results;
    private final State[] ring;
    private State draft;
    private int now;
    private int back;
    private int ahead;
    private int done;

    public GridLedger() {
        input = new byte[INPUT_BYTES];
        contents = new Contents();
        reader = new Reader(input, contents);
        edits = new Edits(contents);
        ring = new State[STATES];
        for (int i = 0; i < STATES; i++) {
            ring[i] = new State();
        }
        draft = new State();
        results = new Results(contents, ring[0]);
    }

    public int feed(int a, int b, int c, int d, int e) throws IndexOutOfBoundsException {
        if (inputLength + FED_BYTES > INPUT_BYTES) {
            throw new IndexOutOfBoundsException();
        }
        take(a);
        take(b);
        take(c);
        take(d);
        take(e);
        return inputLength;
    }

    public int end(int n) throws IllegalArgumentException {
        need(n >= 0 && n <= inputLength);
        inputLength -= n;
        return inputLength;
    }

    public int put(int column, int row) throws IllegalArgumentException, IllegalStateException {
        int length = inputLength;
        inputLength = 0;
        needCell(column, row);
        int content = reader.typed(length);
        need(content != BAD);
        edits.open(ring[now], draft);
        land(content != NO_ROOM && edits.replaced(place(column, row), content));
        return results.follow(ring[now]);
    }

    public int fill(int column, int row, int c, int r, int d, int s)
            throws IllegalArgumentException, IllegalStateException {
        needCell(column, row);
        needCell(c, r);
        needCell(d, s);
        need(c <= d && r <= s);
        edits.open(ring[now], draft);
        land(edits.filled(place(column, row), c, r, d, s));
        return results.follow(ring[now]);
    }

    public int insert(boolean columns, int i, int n) throws IllegalArgumentException, IllegalStateException {
        need(i >= 0 && i < lines(columns));
        need(n >= 1 && n <= LINES_AT_ONCE);
        edits.open(ring[now], draft);
        land(edits.shifted(columns, true, i, n));
        return results.follow(ring[now]);
    }

    public int erase(boolean columns, int i, int n) throws IllegalArgumentException, IllegalStateException {
        need(i >= 0 && i < lines(columns));
        need(n >= 1 && n <= LINES_AT_ONCE && n <= lines(columns) - i);
        edits.open(ring[now], draft);
        land(edits.shifted(columns, false, i, n));
        return results.follow(ring[now]);
    }

    public int undo() throws IllegalStateException {
        if (back == 0) {
            throw new IllegalStateException();
        }
        now = (now + STATES - 1) % STATES;
        back--;
        ahead++;
        done++;
        return results.follow(ring[now]);
    }

    public int redo() throws IllegalStateException {
        if (ahead == 0) {
            throw new IllegalStateException();
        }
        now = (now + 1) % STATES;
        back++;
        ahead--;
        done++;
        return results.follow(ring[now]);
    }

    public long value(int column, int row, int what) throws IllegalArgumentException {
        needCell(column, row);
        need(what == 0 || what == 1);
        int entry = results.at[place(column, row)];
        return what == 0 ? results.values.kind[entry] : results.values.number[entry];
    }

    public int letter(int column, int row, int i) throws IllegalArgumentException, NoSuchElementException {
        needCell(column, row);
        Values values = results.values;
        int entry = results.at[place(column, row)];
        if (values.kind[entry] != TEXT || i < 0 || i >= values.number[entry]) {
            throw new NoSuchElementException();
        }
        return values.text[entry][i];
    }

    public int content(int column, int row, int what) throws IllegalArgumentException {
        needCell(column, row);
        need(what >= 0 && what <= 2);
        int entry = results.at[place(column, row)];
        if (entry == NO_ENTRY) {
            return 0;
        }
        switch (what) {
            case 0:
                return contents.kind[ring[now].content[entry]];
            case 1:
                return ring[now].refs(entry);
            default:
                return ring[now].gone(entry);
        }
    }

    public int reference(int column, int row, int i) throws IllegalArgumentException, NoSuchElementException {
        needCell(column, row);
        int entry = results.at[place(column, row)];
        if (entry == NO_ENTRY || i < 0 || i >= ring[now].refs(entry)) {
            throw new NoSuchElementException();
        }
        return ring[now].target[ring[now].start[entry] + i];
    }

    public int changed(int i) throws NoSuchElementException {
        if (i < 0 || i >= results.changes) {
            throw new NoSuchElementException();
        }
        return results.change[i];
    }

    public int count(int what) {
        switch (what) {
            case 0:
                return inputLength;
            case 1:
                return results.changes;
            case 2:
                return back;
            case 3:
                return ahead;
            case 4:
                return ring[now].cells;
            case 5:
                return formulas();
            case 6:
                return results.cycles(ring[now].cells);
            case 7:
                return done;
            default:
                return -1;
        }
    }

    private void take(int four) {
        for (int shift = 24; shift >= 0; shift -= 8) {
            input[inputLength] = (byte) (four >> shift);
            inputLength++;
        }
    }

    private static void need(boolean right) {
        if (!right) {
            throw new IllegalArgumentException();
        }
    }

    private static void needCell(int column, int row) {
        need(column >= 0 && column < WIDTH && row >= 0 && row < HEIGHT);
    }

    private static int place(int column, int row) {
        return column + WIDTH * row;
    }

    private static int lines(boolean columns) {
        return columns ? WIDTH : HEIGHT;
    }

    /** Makes the draft the present state; the oldest state's rows become the next draft. */
    private void land(boolean possible) {
        if (!possible) {
            throw new IllegalStateException();
        }
        now = (now + 1) % STATES;
        State oldest = ring[now];
        ring[now] = draft;
        draft = oldest;
        back = Math.min(back + 1, UNDOS);
        ahead = 0;
        done++;
    }

    private int formulas() {
        int many = 0;
        for (int k = 0; k < ring[now].cells; k++) {
            if (contents.kind[ring[now].content[k]] == FORMULA) {
                many++;
            }
        }
        return many;
    }

    // How a FUNCTION or an operator works its outcome out, by the part of the machine that does it.
    private static final int COMPARING = 0;
    private static final int RECKONING = 1;
    private static final int DECIDING = 2;
    private static final int ASKING = 3;
    private static final int WRITING = 4;
    private static final int PICKING = 5;
    private static final int GATHERING = 6;
    private static final int MEASURING = 7;
    private static final int SEARCHING = 8;

    /**
     * Operators and FUNCTIONS. The operators come first and in the order of their TOKENS. What one takes is
     * told by a letter for each argument, as in the document; v is any VALUE, ERRORS too.
     */
    private enum Work {
        EQUAL("", "xx", COMPARING),
        UNEQUAL("", "xx", COMPARING),
        BELOW("", "xx", COMPARING),
        NOT_ABOVE("", "xx", COMPARING),
        ABOVE("", "xx", COMPARING),
        NOT_BELOW("", "xx", COMPARING),
        JOIN("", "tt", WRITING),
        PLUS("", "nn", RECKONING),
        MINUS("", "nn", RECKONING),
        TIMES("", "nn", RECKONING),
        DIVIDE("", "nn", RECKONING),
        POWER("", "nn", RECKONING),
        PERCENT("", "n", RECKONING),
        NEGATE("", "n", RECKONING),
        SUM("SUM", "r", GATHERING),
        PRODUCT("PRODUCT", "r", GATHERING),
        MIN("MIN", "r", GATHERING),
        MAX("MAX", "r", GATHERING),
        AVERAGE("AVERAGE", "r", GATHERING),
        COUNT("COUNT", "r", MEASURING),
        COUNTA("COUNTA", "r", MEASURING),
        AND("AND", "bb", DECIDING),
        OR("OR", "bb", DECIDING),
        NOT("NOT", "b", DECIDING),
        IF("IF", "bxx", PICKING),
        IFERROR("IFERROR", "vx", PICKING),
        CHOOSE("CHOOSE", "nxxx", PICKING),
        ISERROR("ISERROR", "v", ASKING),
        ISNUMBER("ISNUMBER", "v", ASKING),
        ISTEXT("ISTEXT", "v", ASKING),
        ISBLANK("ISBLANK", "v", ASKING),
        ABS("ABS", "n", RECKONING),
        SIGN("SIGN", "n", RECKONING),
        MOD("MOD", "nn", RECKONING),
        LEN("LEN", "t", WRITING),
        UPPER("UPPER", "t", WRITING),
        LOWER("LOWER", "t", WRITING),
        LEFT("LEFT", "tn", WRITING),
        RIGHT("RIGHT", "tn", WRITING),
        MID("MID", "tnn", WRITING),
        FIND("FIND", "tt", WRITING),
        REPLACE("REPLACE", "ttt", WRITING),
        ROW("ROW", "r", MEASURING),
        COLUMN("COLUMN", "r", MEASURING),
        ROWS("ROWS", "r", MEASURING),
        COLUMNS("COLUMNS", "r", MEASURING),
        NA("NA", "", ASKING),
        INDEX("INDEX", "rnn", SEARCHING),
        MATCH("MATCH", "xr", SEARCHING),
        LOOKUP("LOOKUP", "xrn", SEARCHING),
        SUMIF("SUMIF", "rx", SEARCHING),
        COUNTIF("COUNTIF", "rx", SEARCHING);

        final String title;
        final String takes;
        final int group;

        Work(String title, String takes, int group) {
            this.title = title;
            this.takes = takes;
            this.group = group;
        }
    }

    private static final Work[] WORKS = Work.values();
    private static final int NEGATE_WORK = 13;
    private static final int FIRST_FUNCTION = 14;

    /** Rows of VALUES. EMPTY has the number 0, so that it is 0, no byte and FALSE without more ado. */
    private static final class Values {
        final int[] kind;
        final long[] number;
        final byte[][] text;

        Values(int size) {
            kind = new int[size];
            number = new long[size];
            text = new byte[size][TEXT_BYTES];
        }

        void set(int i, int sort, long amount) {
            kind[i] = sort;
            number[i] = amount;
        }

        void setTruth(int i, boolean truth) {
            set(i, TRUTH, truth ? 1 : 0);
        }

        void setText(int i, byte[] from, int start, int length) {
            System.arraycopy(from, start, text[i], 0, length);
            set(i, TEXT, length);
        }

        void setFrom(int i, Values other, int j) {
            kind[i] = other.kind[j];
            number[i] = other.number[j];
            if (kind[i] == TEXT) {
                System.arraycopy(other.text[j], 0, text[i], 0, (int) number[i]);
            }
        }

        boolean same(int i, Values other, int j) {
            return kind[i] == other.kind[j] && number[i] == other.number[j] && compare(i, other, j) == 0;
        }

        /** Below 0, 0 or above 0; never asked of ERRORS of different sorts. */
        int compare(int i, Values other, int j) {
            int sort = kind[i] == EMPTY ? other.kind[j] : kind[i];
            int otherSort = other.kind[j] == EMPTY ? sort : other.kind[j];
            if (sort != otherSort) {
                return sort - otherSort;
            }
            if (sort == TEXT) {
                long common = Math.min(number[i], other.number[j]);
                for (int k = 0; k < common; k++) {
                    if (text[i][k] != other.text[j][k]) {
                        return text[i][k] - other.text[j][k];
                    }
                }
            }
            return Long.compare(number[i], other.number[j]);
        }

        /** Makes VALUE i what an argument's letter asks; false if it can't be that. */
        boolean turn(int i, char asked) {
            switch (asked) {
                case 'n':
                    return toNumber(i);
                case 't':
                    toText(i);
                    return true;
                case 'b':
                    return toTruth(i);
                default:
                    return true;
            }
        }

        private boolean toNumber(int i) {
            int length = (int) number[i];
            if (kind[i] == TEXT) {
                if (!isNumber(text[i], 0, length)) {
                    return false;
                }
                number[i] = numberIn(text[i], 0, length);
            }
            kind[i] = NUMBER;
            return true;
        }

        private boolean toTruth(int i) {
            if (kind[i] == TEXT) {
                return false;
            }
            setTruth(i, number[i] != 0);
            return true;
        }

        private void toText(int i) {
            if (kind[i] == NUMBER) {
                writeDigits(i);
            } else if (kind[i] == TRUTH) {
                writeWord(i, number[i] != 0 ? "TRUE" : "FALSE");
            }
            kind[i] = TEXT;
        }

        private void writeWord(int i, String word) {
            for (int k = 0; k < word.length(); k++) {
                text[i][k] = (byte) word.charAt(k);
            }
            number[i] = word.length();
        }

        private void writeDigits(int i) {
            byte[] row = text[i];
            long rest = number[i];
            int length = 0;
            for (boolean more = true; more && length < TEXT_BYTES; more = rest != 0) {
                row[length] = (byte) ('0' + Math.abs(rest % 10));
                rest /= 10;
                length++;
            }
            if (number[i] < 0) {
                row[length] = '-';
                length++;
            }
            for (int k = 0; k < length / 2; k++) {
                byte first = row[k];
                row[k] = row[length - 1 - k];
                row[length - 1 - k] = first;
            }
            number[i] = length;
        }

        /** Whether these bytes are perhaps - and then digits that make a long. */
        static boolean isNumber(byte[] bytes, int from, int to) {
            boolean minus = from < to && bytes[from] == '-';
            int first = minus ? from + 1 : from;
            // Below 0 there is one number more, so the sum is kept there.
            long least = minus ? Long.MIN_VALUE : -Long.MAX_VALUE;
            long sum = 0;
            for (int k = first; k < to; k++) {
                int digit = bytes[k] - '0';
                if (digit < 0 || digit > 9 || sum < (least + digit) / 10) {
                    return false;
                }
                sum = sum * 10 - digit;
            }
            return first < to;
        }

        /** The number that isNumber found there. */
        static long numberIn(byte[] bytes, int from, int to) {
            boolean minus = from < to && bytes[from] == '-';
            long sum = 0;
            for (int k = minus ? from + 1 : from; k < to; k++) {
                sum = sum * 10 - (bytes[k] - '0');
            }
            return minus ? sum : -sum;
        }

        static boolean plusFits(long a, long b) {
            long sum = a + b;
            return ((a ^ sum) & (b ^ sum)) >= 0;
        }

        static boolean timesFits(long a, long b) {
            if (b == 0) {
                return true;
            }
            if (b == -1) {
                return a != Long.MIN_VALUE;
            }
            return a * b / b == a;
        }
    }

    // What a CONTENT's code does, step by step.
    private static final int PUSH_NUMBER = 0;
    private static final int PUSH_TEXT = 1;
    private static final int PUSH_TRUTH = 2;
    private static final int PUSH_ERROR = 3;
    private static final int PUSH_REF = 4;
    private static final int PUSH_CELL_BOX = 5;
    private static final int PUSH_RANGE_BOX = 6;
    private static final int PICK_BY_TRUTH = 7;
    private static final int PICK_BY_NUMBER = 8;
    private static final int PICK_BY_ERROR = 9;
    private static final int JUMP = 10;
    private static final int APPLY = 11;

    /**
     * All CONTENTS that were ever TYPED, by number; 0 is nothing. An object's calls can feed no more bytes than
     * the rows have room for, and no CONTENT makes more steps than it has bytes.
     */
    private static final class Contents {
        static final int MOST_BYTES = CALLS * FED_BYTES + INPUT_BYTES;

        final int[] kind = new int[CALLS + 1];
        final int[] codeStart = new int[CALLS + 1];
        final int[] codeEnd = new int[CALLS + 1];
        final int[] refStart = new int[CALLS + 1];
        final int[] refs = new int[CALLS + 1];
        final int[] ranges = new int[CALLS + 1];
        final int[] op = new int[MOST_BYTES];
        final long[] operand = new long[MOST_BYTES];
        final int[] target = new int[MOST_BYTES];
        final int[] shape = new int[MOST_BYTES];
        final byte[] bytes = new byte[MOST_BYTES];
        int made = 1;
        int codeSize;
        int refSize;
        int byteSize;

        boolean hasRoom() {
            int used = Math.max(byteSize, Math.max(codeSize, refSize));
            return made <= CALLS && used <= MOST_BYTES - INPUT_BYTES;
        }

        void begin(int sort) {
            kind[made] = sort;
            codeStart[made] = codeSize;
            refStart[made] = refSize;
            ranges[made] = 0;
        }

        int finish() {
            codeEnd[made] = codeSize;
            refs[made] = refSize - refStart[made];
            made++;
            return made - 1;
        }

        void emit(int step, long detail) {
            op[codeSize] = step;
            operand[codeSize] = detail;
            codeSize++;
        }

        void emitText(byte[] from, int start, int length) {
            System.arraycopy(from, start, bytes, byteSize, length);
            emit(PUSH_TEXT, (long) byteSize * INPUT_BYTES + length);
            byteSize += length;
        }

        /** Answers which REF of its FORMULA this is. */
        int addRef(int place, int form) {
            target[refSize] = place;
            shape[refSize] = form;
            if ((form & FIRST_CORNER) != 0) {
                ranges[made]++;
            }
            refSize++;
            return refSize - 1 - refStart[made];
        }

        /** A FORMULA that is none has no REFS either. */
        void becomeSyntaxError() {
            codeSize = codeStart[made];
            refSize = refStart[made];
            ranges[made] = 0;
            emit(PUSH_ERROR, SYNTAX);
        }
    }

    // Kinds of TOKENS; those of operators are the numbers of their works.
    private static final int EQUAL_SIGN = 0;
    private static final int UNEQUAL_SIGN = 1;
    private static final int BELOW_SIGN = 2;
    private static final int NOT_ABOVE_SIGN = 3;
    private static final int ABOVE_SIGN = 4;
    private static final int NOT_BELOW_SIGN = 5;
    private static final int JOIN_SIGN = 6;
    private static final int PLUS_SIGN = 7;
    private static final int MINUS_SIGN = 8;
    private static final int TIMES_SIGN = 9;
    private static final int DIVIDE_SIGN = 10;
    private static final int POWER_SIGN = 11;
    private static final int PERCENT_SIGN = 12;
    private static final int OPEN = 13;
    private static final int CLOSE = 14;
    private static final int COMMA = 15;
    private static final int COLON = 16;
    private static final int DIGITS = 17;
    private static final int STRING = 18;
    private static final int REF = 19;
    private static final int NAME = 20;
    private static final int TRUE_WORD = 21;
    private static final int FALSE_WORD = 22;
    private static final int LAST = 23;
    private static final int NO_TOKEN = 24;

    /** How tightly the operator of each kind of TOKEN binds; 0: it is none that stands between two. */
    private static final int[] TIGHTNESS = {
        1, 1, 1, 1, 1, 1, 2, 3, 3, 4, 4, 5, 0, 0, 0, 0, 0, 0, 0, 0, 0, 0, 0, 0, 0
    };
    private static final int LOOSEST = 1;

    /** Cuts a FORMULA's bytes into TOKENS. */
    private static final class Tokens {
        /** Looking this far ahead needs no look at the number of TOKENS. */
        static final int AHEAD = 4;

        final byte[] bytes;
        final int[] kind = new int[TOKENS + AHEAD];
        final int[] from = new int[TOKENS + AHEAD];
        final int[] to = new int[TOKENS + AHEAD];
        /** The place of the CELL that a REF names, -1 of other words. */
        final int[] place = new int[TOKENS + AHEAD];
        int size;

        Tokens(byte[] bytes) {
            this.bytes = bytes;
        }

        /** False if there is something among these bytes that is no TOKEN, or if there are too many. */
        boolean cut(int start, int stop) {
            size = 0;
            int at = start;
            for (int left = stop - start; left > 0 && at < stop; left--) {
                if (bytes[at] == ' ') {
                    at++;
                    continue;
                }
                if (size == TOKENS) {
                    return false;
                }
                from[size] = at;
                if (bytes[at] == '"') {
                    at = takeString(at, stop);
                } else if (isWordByte(bytes[at])) {
                    at = takeWord(at, stop);
                } else {
                    at = takeSign(at, stop);
                }
                to[size] = at;
                if (kind[size] == NO_TOKEN) {
                    return false;
                }
                size++;
            }
            for (int k = size; k < size + AHEAD; k++) {
                kind[k] = LAST;
            }
            return true;
        }

        private int takeString(int at, int stop) {
            int close = at + 1;
            while (close < stop && bytes[close] != '"') {
                close++;
            }
            boolean right = close < stop && close - at - 1 <= TEXT_BYTES;
            kind[size] = right ? STRING : NO_TOKEN;
            return close + 1;
        }

        private int takeWord(int at, int stop) {
            int behind = at;
            while (behind < stop && isWordByte(bytes[behind])) {
                behind++;
            }
            place[size] = placeIn(at, behind);
            kind[size] = place[size] >= 0 ? REF : wordKind(at, behind);
            return behind;
        }

        private int wordKind(int start, int stop) {
            if (Values.isNumber(bytes, start, stop)) {
                return DIGITS;
            }
            if (!isName(start, stop)) {
                return NO_TOKEN;
            }
            if (spells(start, stop, "TRUE")) {
                return TRUE_WORD;
            }
            return spells(start, stop, "FALSE") ? FALSE_WORD : NAME;
        }

        private int takeSign(int at, int stop) {
            int sign = signOf(bytes[at]);
            byte second = at + 1 < stop ? bytes[at + 1] : 0;
            int both = sign;
            if (sign == BELOW_SIGN && second == '>') {
                both = UNEQUAL_SIGN;
            } else if (sign == BELOW_SIGN && second == '=') {
                both = NOT_ABOVE_SIGN;
            } else if (sign == ABOVE_SIGN && second == '=') {
                both = NOT_BELOW_SIGN;
            }
            kind[size] = both;
            return both == sign ? at + 1 : at + 2;
        }

        private static int signOf(byte sign) {
            switch (sign) {
                case '=':
                    return EQUAL_SIGN;
                case '<':
                    return BELOW_SIGN;
                case '>':
                    return ABOVE_SIGN;
                case '&':
                    return JOIN_SIGN;
                case '+':
                    return PLUS_SIGN;
                case '-':
                    return MINUS_SIGN;
                case '*':
                    return TIMES_SIGN;
                case '/':
                    return DIVIDE_SIGN;
                case '^':
                    return POWER_SIGN;
                case '%':
                    return PERCENT_SIGN;
                case '(':
                    return OPEN;
                case ')':
                    return CLOSE;
                case ',':
                    return COMMA;
                case ':':
                    return COLON;
                default:
                    return NO_TOKEN;
            }
        }

        private static boolean isWordByte(byte b) {
            return isCapital(b) || b >= 'a' && b <= 'z' || b >= '0' && b <= '9' || b == '$';
        }

        private static boolean isCapital(byte b) {
            return b >= 'A' && b <= 'Z';
        }

        private boolean isName(int start, int stop) {
            for (int k = start; k < stop; k++) {
                if (!isCapital(bytes[k])) {
                    return false;
                }
            }
            return stop - start >= 2 && stop - start <= 12;
        }

        private boolean spells(int start, int stop, String word) {
            boolean same = stop - start == word.length();
            for (int k = 0; same && k < word.length(); k++) {
                same = bytes[start + k] == word.charAt(k);
            }
            return same;
        }

        /** The place of the CELL that a REF of these bytes names, or -1 if they are no REF. */
        private int placeIn(int start, int stop) {
            int at = start;
            if (bytes[at] == '$') {
                at++;
            }
            if (at >= stop || !isCapital(bytes[at])) {
                return -1;
            }
            int column = bytes[at] - 'A';
            at++;
            if (at < stop && bytes[at] == '$') {
                at++;
            }
            if (at >= stop || stop - at > 3 || bytes[at] == '0' || !Values.isNumber(bytes, at, stop)) {
                return -1;
            }
            long row = Values.numberIn(bytes, at, stop);
            return row > HEIGHT ? -1 : GridLedger.place(column, (int) row - 1);
        }

        /** Where a REF has its $. */
        int fixedOf(int token) {
            boolean column = bytes[from[token]] == '$';
            int behindLetter = from[token] + (column ? 2 : 1);
            boolean row = bytes[behindLetter] == '$';
            return (column ? FIXED_COLUMN : 0) | (row ? FIXED_ROW : 0);
        }

        long numberOf(int token) {
            return Values.numberIn(bytes, from[token], to[token]);
        }

        /** The number of the work that a NAME names, or -1. */
        int workOf(int token) {
            for (int k = FIRST_FUNCTION; k < WORKS.length; k++) {
                if (spells(from[token], to[token], WORKS[k].title)) {
                    return k;
                }
            }
            return -1;
        }
    }

    /** Makes CONTENTS of what was TYPED: their code, operands before their operators. */
    private static final class Reader {
        static final int MOST_PICKED = 4;

        final byte[] input;
        final Contents contents;
        final Tokens tokens;
        /** Where the arguments begin of which one is picked; open calls have different depths. */
        final int[] mark = new int[(DEPTH + 1) * MOST_PICKED];
        int at;
        boolean failed;

        Reader(byte[] input, Contents contents) {
            this.input = input;
            this.contents = contents;
            this.tokens = new Tokens(input);
        }

        /** The CONTENT's number; BAD, or NO_ROOM, which only later calls than promised can meet. */
        int typed(int length) {
            if (length == 0) {
                return NOTHING;
            }
            if (!isPrintable(length)) {
                return BAD;
            }
            boolean number = Values.isNumber(input, 0, length);
            boolean formula = input[0] == '=';
            int most = formula ? FORMULA_BYTES + 1 : TEXT_BYTES;
            if (!number && length > most) {
                return BAD;
            }
            if (!contents.hasRoom()) {
                return NO_ROOM;
            }
            if (formula) {
                readFormula(length);
            } else if (number) {
                contents.begin(NUMBER);
                contents.emit(PUSH_NUMBER, Values.numberIn(input, 0, length));
            } else {
                contents.begin(TEXT);
                contents.emitText(input, 0, length);
            }
            return contents.finish();
        }

        private boolean isPrintable(int length) {
            for (int k = 0; k < length; k++) {
                if (input[k] < 32 || input[k] > 126) {
                    return false;
                }
            }
            return true;
        }

        private void readFormula(int length) {
            contents.begin(FORMULA);
            at = 0;
            failed = !tokens.cut(1, length);
            if (!failed) {
                readExpression(LOOSEST, 0);
                expect(LAST);
            }
            if (failed) {
                contents.becomeSyntaxError();
            }
        }

        private void expect(int kind) {
            if (!failed && tokens.kind[at] == kind) {
                at++;
            } else {
                failed = true;
            }
        }

        /** Reads operands and the operators between them that bind at least so tightly. */
        private void readExpression(int least, int depth) {
            readOperand(depth);
            for (int left = TOKENS; left > 0 && !failed; left--) {
                int sign = tokens.kind[at];
                if (TIGHTNESS[sign] < least) {
                    return;
                }
                at++;
                readExpression(TIGHTNESS[sign] + 1, depth);
                contents.emit(APPLY, sign);
            }
        }

        private void readOperand(int depth) {
            if (depth > DEPTH) {
                failed = true;
                return;
            }
            if (tokens.kind[at] == MINUS_SIGN) {
                at++;
                readOperand(depth + 1);
                contents.emit(APPLY, NEGATE_WORK);
                return;
            }
            readPrimary(depth);
            for (int left = TOKENS; left > 0 && !failed && tokens.kind[at] == PERCENT_SIGN; left--) {
                at++;
                contents.emit(APPLY, PERCENT_SIGN);
            }
        }

        private void readPrimary(int depth) {
            int token = at;
            at++;
            switch (tokens.kind[token]) {
                case DIGITS:
                    contents.emit(PUSH_NUMBER, tokens.numberOf(token));
                    break;
                case STRING:
                    contents.emitText(input, tokens.from[token] + 1, tokens.to[token] - tokens.from[token] - 2);
                    break;
                case REF:
                    contents.emit(PUSH_REF, addRef(token, 0));
                    break;
                case TRUE_WORD:
                    contents.emit(PUSH_TRUTH, 1);
                    break;
                case FALSE_WORD:
                    contents.emit(PUSH_TRUTH, 0);
                    break;
                case NAME:
                    readCall(tokens.workOf(token), depth);
                    break;
                case OPEN:
                    readExpression(LOOSEST, depth + 1);
                    expect(CLOSE);
                    break;
                default:
                    failed = true;
                    break;
            }
        }

        private int addRef(int token, int corner) {
            return contents.addRef(tokens.place[token], tokens.fixedOf(token) | corner);
        }

        private void readCall(int work, int depth) {
            int begin = contents.codeSize;
            String takes = work < 0 ? "" : WORKS[work].takes;
            boolean right = true;
            int given = 0;
            expect(OPEN);
            boolean more = !failed && tokens.kind[at] != CLOSE;
            while (more && given < TOKENS) {
                right = readArgument(work, given, depth + 1) && right;
                given++;
                more = !failed && tokens.kind[at] == COMMA;
                at += more ? 1 : 0;
            }
            expect(CLOSE);
            if (failed) {
                return;
            }
            if (work < 0) {
                replaceCode(begin, NO_NAME);
            } else if (!right || given != takes.length()) {
                replaceCode(begin, WRONG_VALUE);
            } else if (WORKS[work].group == PICKING) {
                closePicks(given, depth + 1);
            } else {
                contents.emit(APPLY, work);
            }
        }

        /** A wrong call's arguments are not worked out, but its REFS stay. */
        private void replaceCode(int begin, int error) {
            contents.codeSize = begin;
            contents.emit(PUSH_ERROR, error);
        }

        /** Answers whether it is a RANGE, or a REF as one, just where r stands. */
        private boolean readArgument(int work, int index, int depth) {
            if (depth > DEPTH) {
                failed = true;
                return false;
            }
            String takes = work < 0 ? "" : WORKS[work].takes;
            boolean known = index < takes.length();
            boolean box = known && takes.charAt(index) == 'r';
            if (tokens.kind[at] == REF && tokens.kind[at + 1] == COLON && tokens.kind[at + 2] == REF) {
                readRange();
                return box;
            }
            if (box && tokens.kind[at] == REF && endsArgument(at + 1)) {
                contents.emit(PUSH_CELL_BOX, addRef(at, 0));
                at++;
                return true;
            }
            if (known && index > 0 && WORKS[work].group == PICKING) {
                openPick(work, index, depth);
            }
            readExpression(LOOSEST, depth);
            return !box;
        }

        private boolean endsArgument(int token) {
            return tokens.kind[token] == COMMA || tokens.kind[token] == CLOSE;
        }

        private void readRange() {
            if (!endsArgument(at + 3)) {
                failed = true;
                return;
            }
            contents.emit(PUSH_RANGE_BOX, addRef(at, FIRST_CORNER));
            addRef(at + 2, SECOND_CORNER);
            at += 3;
        }

        private void openPick(int work, int index, int depth) {
            if (index > 1) {
                contents.emit(JUMP, 0);
            }
            mark[depth * MOST_PICKED + index] = contents.codeSize;
            switch (WORKS[work]) {
                case IF:
                    contents.emit(PICK_BY_TRUTH, 0);
                    break;
                case CHOOSE:
                    contents.emit(PICK_BY_NUMBER, 0);
                    break;
                default:
                    contents.emit(PICK_BY_ERROR, 0);
                    break;
            }
        }

        /** Tells each pick and each jump where to go on, which is known only now. */
        private void closePicks(int given, int depth) {
            long end = contents.codeSize;
            for (int k = 1; k < given; k++) {
                int here = mark[depth * MOST_PICKED + k];
                long next = k + 1 < given ? mark[depth * MOST_PICKED + k + 1] : end;
                contents.operand[here] = (long) k << 32 | next << 16 | end;
                if (k > 1) {
                    contents.operand[here - 1] = end;
                }
            }
        }
    }

    /** Works a CONTENT's code out; the outcome is the lowest VALUE of the stack. */
    private static final class Machine {
        /** No code pushes more than its TOKENS; works may look two VALUES further. */
        final Values stack = new Values(TOKENS + 4);
        final byte[] scratch = new byte[TEXT_BYTES];
        final Contents contents;
        final Boxes boxes;
        State state;
        int firstTarget;
        int top;

        Machine(Contents contents, int[] at, State state, Values cells) {
            this.contents = contents;
            this.state = state;
            this.boxes = new Boxes(stack, at, cells);
        }

        void open(State present, Values cells) {
            state = present;
            boxes.cells = cells;
        }

        void run(int entry) {
            int content = state.content[entry];
            int end = contents.codeEnd[content];
            int step = contents.codeStart[content];
            firstTarget = state.start[entry];
            top = 0;
            for (int left = end - step; left > 0 && step < end; left--) {
                long detail = contents.operand[step];
                int op = contents.op[step];
                if (op == APPLY) {
                    Work work = WORKS[(int) detail];
                    top -= work.takes.length() - 1;
                    if (isReady(work, top - 1)) {
                        workOut(work, top - 1);
                    }
                    step++;
                } else if (op == JUMP) {
                    step = (int) detail;
                } else if (op >= PICK_BY_TRUTH) {
                    step = pick(op, detail, step + 1);
                } else {
                    push(op, detail);
                    step++;
                }
            }
            if (stack.kind[0] == EMPTY) {
                stack.set(0, NUMBER, 0);
            }
        }

        private void push(int op, long detail) {
            switch (op) {
                case PUSH_NUMBER:
                    stack.set(top, NUMBER, detail);
                    break;
                case PUSH_TEXT:
                    stack.setText(top, contents.bytes, (int) (detail / INPUT_BYTES), (int) (detail % INPUT_BYTES));
                    break;
                case PUSH_TRUTH:
                    stack.set(top, TRUTH, detail);
                    break;
                case PUSH_ERROR:
                    stack.set(top, ERROR, detail);
                    break;
                default:
                    pushTarget(op, firstTarget + (int) detail);
                    break;
            }
            top++;
        }

        private void pushTarget(int op, int ref) {
            int place = state.target[ref];
            if (place == GONE) {
                stack.set(top, ERROR, LOST_REF);
            } else if (op == PUSH_REF) {
                stack.setFrom(top, boxes.cells, boxes.at[place]);
            } else {
                int other = op == PUSH_RANGE_BOX ? state.target[ref + 1] : place;
                stack.set(top, BOX, (long) place * PLACES + other);
            }
        }

        /** Answers the step to go on with: that of the argument if it is the one, else the detail's next or end. */
        private int pick(int op, long detail, int taken) {
            int index = (int) (detail >> 32);
            int next = (int) (detail >> 16 & 0xFFFF);
            int end = (int) (detail & 0xFFFF);
            int slot = top - 1;
            boolean error = stack.kind[slot] == ERROR;
            if (op == PICK_BY_ERROR) {
                top -= error ? 1 : 0;
                return error ? taken : end;
            }
            if (error) {
                return end;
            }
            if (!stack.turn(slot, op == PICK_BY_TRUTH ? 'b' : 'n')) {
                stack.set(slot, ERROR, WRONG_VALUE);
                return end;
            }
            long wanted = op == PICK_BY_TRUTH ? 2 - stack.number[slot] : stack.number[slot];
            if (wanted < 1 || wanted > 3) {
                stack.set(slot, ERROR, WRONG_VALUE);
                return end;
            }
            top -= wanted == index ? 1 : 0;
            return wanted == index ? taken : next;
        }

        /** Whether no argument is an ERROR and all are what is asked; else the outcome stands there already. */
        private boolean isReady(Work work, int slot) {
            int many = work.takes.length();
            for (int k = 0; k < many; k++) {
                if (stack.kind[slot + k] == ERROR && work.takes.charAt(k) != 'v') {
                    stack.set(slot, ERROR, stack.number[slot + k]);
                    return false;
                }
            }
            for (int k = 0; k < many; k++) {
                if (!stack.turn(slot + k, work.takes.charAt(k))) {
                    stack.set(slot, ERROR, WRONG_VALUE);
                    return false;
                }
            }
            return true;
        }

        private void workOut(Work work, int slot) {
            switch (work.group) {
                case COMPARING:
                    decideOrder(work, slot);
                    break;
                case RECKONING:
                    reckon(work, slot);
                    break;
                case DECIDING:
                    decide(work, slot);
                    break;
                case ASKING:
                    ask(work, slot);
                    break;
                case WRITING:
                    write(work, slot);
                    break;
                case GATHERING:
                    boxes.gather(work, slot);
                    break;
                case MEASURING:
                    boxes.measure(work, slot);
                    break;
                default:
                    boxes.search(work, slot);
                    break;
            }
        }

        private void decideOrder(Work work, int slot) {
            int order = stack.compare(slot, stack, slot + 1);
            switch (work) {
                case EQUAL:
                    stack.setTruth(slot, order == 0);
                    break;
                case UNEQUAL:
                    stack.setTruth(slot, order != 0);
                    break;
                case BELOW:
                    stack.setTruth(slot, order < 0);
                    break;
                case NOT_ABOVE:
                    stack.setTruth(slot, order <= 0);
                    break;
                case ABOVE:
                    stack.setTruth(slot, order > 0);
                    break;
                default:
                    stack.setTruth(slot, order >= 0);
                    break;
            }
        }

        private void reckon(Work work, int slot) {
            long a = stack.number[slot];
            long b = stack.number[slot + 1];
            switch (work) {
                case PLUS:
                    settle(slot, a + b, Values.plusFits(a, b));
                    break;
                case MINUS:
                    settle(slot, a - b, Values.plusFits(a - b, b));
                    break;
                case TIMES:
                    settle(slot, a * b, Values.timesFits(a, b));
                    break;
                case DIVIDE:
                    divide(slot, a, b);
                    break;
                case POWER:
                    raise(slot, a, b);
                    break;
                case PERCENT:
                    settle(slot, a / 100, true);
                    break;
                case NEGATE:
                    settle(slot, -a, a != Long.MIN_VALUE);
                    break;
                case ABS:
                    settle(slot, a < 0 ? -a : a, a != Long.MIN_VALUE);
                    break;
                case SIGN:
                    settle(slot, Long.compare(a, 0), true);
                    break;
                default:
                    modulo(slot, a, b);
                    break;
            }
        }

        private void settle(int slot, long outcome, boolean fits) {
            stack.set(slot, fits ? NUMBER : ERROR, fits ? outcome : NO_LONG);
        }

        private void divide(int slot, long a, long b) {
            if (b == 0) {
                stack.set(slot, ERROR, BY_ZERO);
            } else {
                settle(slot, a / b, a != Long.MIN_VALUE || b != -1);
            }
        }

        private void modulo(int slot, long n, long m) {
            if (m == 0) {
                stack.set(slot, ERROR, BY_ZERO);
            } else {
                stack.set(slot, NUMBER, Math.floorMod(n, m));
            }
        }

        private void raise(int slot, long a, long b) {
            // 0, 1 and -1 stay what they are however often; all others are no long after 64 times.
            boolean small = a >= -1 && a <= 1;
            long times = small && b > 2 ? 2 - b % 2 : Math.min(b, 64);
            boolean fits = b >= 0;
            long outcome = 1;
            for (int k = 0; fits && k < times; k++) {
                fits = Values.timesFits(outcome, a);
                outcome *= a;
            }
            settle(slot, outcome, fits);
        }

        private void decide(Work work, int slot) {
            boolean a = stack.number[slot] != 0;
            boolean b = stack.number[slot + 1] != 0;
            switch (work) {
                case AND:
                    stack.setTruth(slot, a && b);
                    break;
                case OR:
                    stack.setTruth(slot, a || b);
                    break;
                default:
                    stack.setTruth(slot, !a);
                    break;
            }
        }

        private void ask(Work work, int slot) {
            int kind = stack.kind[slot];
            switch (work) {
                case ISERROR:
                    stack.setTruth(slot, kind == ERROR);
                    break;
                case ISNUMBER:
                    stack.setTruth(slot, kind == NUMBER);
                    break;
                case ISTEXT:
                    stack.setTruth(slot, kind == TEXT);
                    break;
                case ISBLANK:
                    stack.setTruth(slot, kind == EMPTY);
                    break;
                default:
                    stack.set(slot, ERROR, NONE);
                    break;
            }
        }

        private void write(Work work, int slot) {
            int length = (int) stack.number[slot];
            long n = stack.number[slot + 1];
            switch (work) {
                case JOIN:
                    join(slot);
                    break;
                case LEN:
                    stack.set(slot, NUMBER, length);
                    break;
                case UPPER:
                    changeCase(slot, 'a', 'A');
                    break;
                case LOWER:
                    changeCase(slot, 'A', 'a');
                    break;
                case LEFT:
                    cutOut(slot, 0, n);
                    break;
                case RIGHT:
                    cutOut(slot, length - Math.min(Math.max(n, 0), length), n);
                    break;
                case MID:
                    cutOut(slot, Math.max(n, 0) - 1, stack.number[slot + 2]);
                    break;
                case FIND:
                    find(slot);
                    break;
                default:
                    exchange(slot);
                    break;
            }
        }

        private void join(int slot) {
            int length = (int) stack.number[slot];
            int more = (int) stack.number[slot + 1];
            if (length + more > TEXT_BYTES) {
                stack.set(slot, ERROR, WRONG_VALUE);
                return;
            }
            System.arraycopy(stack.text[slot + 1], 0, stack.text[slot], length, more);
            stack.number[slot] = length + more;
        }

        private void changeCase(int slot, char from, char to) {
            byte[] text = stack.text[slot];
            for (int k = 0; k < stack.number[slot]; k++) {
                if (text[k] >= from && text[k] < from + WIDTH) {
                    text[k] += to - from;
                }
            }
        }

        private void cutOut(int slot, long start, long wanted) {
            if (start < 0 || wanted < 0) {
                stack.set(slot, ERROR, WRONG_VALUE);
                return;
            }
            int from = (int) Math.min(start, stack.number[slot]);
            int length = (int) Math.min(wanted, stack.number[slot] - from);
            stack.setText(slot, stack.text[slot], from, length);
        }

        private void find(int slot) {
            int found = placeOf(slot, slot + 1, 0);
            if (found < 0) {
                stack.set(slot, ERROR, WRONG_VALUE);
            } else {
                stack.set(slot, NUMBER, found + 1);
            }
        }

        /** The first place of the one TEXT in the other, not before a place; -1 if there is none. */
        private int placeOf(int sought, int slot, int from) {
            byte[] wanted = stack.text[sought];
            int length = (int) stack.number[sought];
            for (int k = from; k <= stack.number[slot] - length; k++) {
                int same = 0;
                while (same < length && stack.text[slot][k + same] == wanted[same]) {
                    same++;
                }
                if (same == length) {
                    return k;
                }
            }
            return -1;
        }

        private void exchange(int slot) {
            int sought = (int) stack.number[slot + 1];
            int given = (int) stack.number[slot + 2];
            int length = 0;
            int at = 0;
            // One round more than there are bytes: the last one takes what is behind the last place found.
            for (int left = TEXT_BYTES + 1; left > 0; left--) {
                int found = sought == 0 ? -1 : placeOf(slot + 1, slot, at);
                int kept = (found < 0 ? (int) stack.number[slot] : found) - at;
                int added = found < 0 ? 0 : given;
                if (length + kept + added > TEXT_BYTES) {
                    stack.set(slot, ERROR, WRONG_VALUE);
                    return;
                }
                System.arraycopy(stack.text[slot], at, scratch, length, kept);
                System.arraycopy(stack.text[slot + 2], 0, scratch, length + kept, added);
                length += kept + added;
                if (found < 0) {
                    break;
                }
                at = found + sought;
            }
            stack.setText(slot, scratch, 0, length);
        }
    }

    /** The FUNCTIONS of RANGES. A BOX's number is its two corners, in any order. */
    private static final class Boxes {
        final Values stack;
        final int[] at;
        Values cells;
        int firstColumn;
        int lastColumn;
        int firstRow;
        int lastRow;

        Boxes(Values stack, int[] at, Values cells) {
            this.stack = stack;
            this.at = at;
            this.cells = cells;
        }

        private void open(int slot) {
            int one = (int) (stack.number[slot] / PLACES);
            int other = (int) (stack.number[slot] % PLACES);
            firstColumn = Math.min(one % WIDTH, other % WIDTH);
            lastColumn = Math.max(one % WIDTH, other % WIDTH);
            firstRow = Math.min(one / WIDTH, other / WIDTH);
            lastRow = Math.max(one / WIDTH, other / WIDTH);
        }

        void gather(Work work, int slot) {
            open(slot);
            // An ERROR behind NUMBERS that make no long is the outcome all the same, so it is sought first.
            int wrong = firstError();
            if (wrong >= 0) {
                stack.set(slot, ERROR, cells.number[wrong]);
                return;
            }
            long outcome = work == Work.PRODUCT ? 1 : 0;
            int many = 0;
            for (int row = firstRow; row <= lastRow; row++) {
                for (int column = firstColumn; column <= lastColumn; column++) {
                    int entry = at[place(column, row)];
                    if (cells.kind[entry] != NUMBER) {
                        continue;
                    }
                    long next = cells.number[entry];
                    if (!fits(work, outcome, next)) {
                        stack.set(slot, ERROR, NO_LONG);
                        return;
                    }
                    outcome = many == 0 && work != Work.PRODUCT ? next : gathered(work, outcome, next);
                    many++;
                }
            }
            if (work == Work.AVERAGE) {
                average(slot, outcome, many);
            } else {
                stack.set(slot, NUMBER, outcome);
            }
        }

        private int firstError() {
            for (int row = firstRow; row <= lastRow; row++) {
                for (int column = firstColumn; column <= lastColumn; column++) {
                    int entry = at[place(column, row)];
                    if (cells.kind[entry] == ERROR) {
                        return entry;
                    }
                }
            }
            return -1;
        }

        private static boolean fits(Work work, long outcome, long next) {
            switch (work) {
                case SUM:
                case AVERAGE:
                    return Values.plusFits(outcome, next);
                case PRODUCT:
                    return Values.timesFits(outcome, next);
                default:
                    return true;
            }
        }

        private static long gathered(Work work, long outcome, long next) {
            switch (work) {
                case PRODUCT:
                    return outcome * next;
                case MIN:
                    return Math.min(outcome, next);
                case MAX:
                    return Math.max(outcome, next);
                default:
                    return outcome + next;
            }
        }

        private void average(int slot, long sum, int many) {
            if (many == 0) {
                stack.set(slot, ERROR, BY_ZERO);
            } else {
                stack.set(slot, NUMBER, sum / many);
            }
        }

        void measure(Work work, int slot) {
            open(slot);
            stack.set(slot, NUMBER, measured(work));
        }

        private int measured(Work work) {
            switch (work) {
                case ROW:
                    return firstRow + 1;
                case COLUMN:
                    return firstColumn + 1;
                case ROWS:
                    return lastRow - firstRow + 1;
                case COLUMNS:
                    return lastColumn - firstColumn + 1;
                case COUNT:
                    return ofKind(NUMBER);
                default:
                    return (lastRow - firstRow + 1) * (lastColumn - firstColumn + 1) - ofKind(EMPTY);
            }
        }

        private int ofKind(int kind) {
            int many = 0;
            for (int row = firstRow; row <= lastRow; row++) {
                for (int column = firstColumn; column <= lastColumn; column++) {
                    if (cells.kind[at[place(column, row)]] == kind) {
                        many++;
                    }
                }
            }
            return many;
        }

        void search(Work work, int slot) {
            switch (work) {
                case INDEX:
                    open(slot);
                    show(slot, stack.number[slot + 1], stack.number[slot + 2]);
                    break;
                case MATCH:
                    open(slot + 1);
                    match(slot);
                    break;
                case LOOKUP:
                    open(slot + 1);
                    lookUp(slot);
                    break;
                default:
                    open(slot);
                    addUp(work, slot);
                    break;
            }
        }

        private void show(int slot, long row, long column) {
            boolean there = row >= 1 && row <= lastRow - firstRow + 1
                    && column >= 1 && column <= lastColumn - firstColumn + 1;
            if (there) {
                int place = place(firstColumn + (int) column - 1, firstRow + (int) row - 1);
                stack.setFrom(slot, cells, at[place]);
            } else {
                stack.set(slot, ERROR, LOST_REF);
            }
        }

        private boolean isSo(int column, int row, int sought) {
            int entry = at[place(column, row)];
            return cells.kind[entry] != ERROR && cells.compare(entry, stack, sought) == 0;
        }

        private void match(int slot) {
            int number = 0;
            for (int row = firstRow; row <= lastRow; row++) {
                for (int column = firstColumn; column <= lastColumn; column++) {
                    number++;
                    if (isSo(column, row, slot)) {
                        stack.set(slot, NUMBER, number);
                        return;
                    }
                }
            }
            stack.set(slot, ERROR, NONE);
        }

        private void lookUp(int slot) {
            for (int row = firstRow; row <= lastRow; row++) {
                if (isSo(firstColumn, row, slot)) {
                    show(slot, row - firstRow + 1, stack.number[slot + 2]);
                    return;
                }
            }
            stack.set(slot, ERROR, NONE);
        }

        private void addUp(Work work, int slot) {
            long sum = 0;
            int many = 0;
            for (int row = firstRow; row <= lastRow; row++) {
                for (int column = firstColumn; column <= lastColumn; column++) {
                    if (!isSo(column, row, slot + 1)) {
                        continue;
                    }
                    many++;
                    int entry = at[place(column, row)];
                    long next = cells.kind[entry] == NUMBER && work == Work.SUMIF ? cells.number[entry] : 0;
                    if (!Values.plusFits(sum, next)) {
                        stack.set(slot, ERROR, NO_LONG);
                        return;
                    }
                    sum += next;
                }
            }
            stack.set(slot, NUMBER, work == Work.SUMIF ? sum : many);
        }
    }

    /** The CELLS with CONTENTS, in order row by row, and where their REFS are now. */
    private static final class State {
        int cells;
        final int[] place = new int[CELLS];
        final int[] content = new int[CELLS];
        /** Entry k's targets are those from start k to start k + 1. */
        final int[] start = new int[CELLS + 1];
        final int[] target = new int[CELLS * REFS];

        int refs(int entry) {
            return start[entry + 1] - start[entry];
        }

        int gone(int entry) {
            int many = 0;
            for (int k = start[entry]; k < start[entry + 1]; k++) {
                if (target[k] == GONE) {
                    many++;
                }
            }
            return many;
        }

        /** The first entry that is not before a place. */
        int entryFrom(int where) {
            int low = 0;
            int high = cells;
            for (int left = CELLS; left > 0 && low < high; left--) {
                int middle = (low + high) / 2;
                if (place[middle] < where) {
                    low = middle + 1;
                } else {
                    high = middle;
                }
            }
            return low;
        }

        /** Adds an entry behind all others; its targets follow by addTarget. */
        void addEntry(int where, int what) {
            place[cells] = where;
            content[cells] = what;
            cells++;
            start[cells] = start[cells - 1];
        }

        void addTarget(int where) {
            target[start[cells]] = where;
            start[cells]++;
        }

        /** Adds another state's entries; false if there is no room for them. */
        boolean addRun(State from, int first, int behind) {
            int many = behind - first;
            if (cells + many > CELLS) {
                return false;
            }
            System.arraycopy(from.place, first, place, cells, many);
            System.arraycopy(from.content, first, content, cells, many);
            int further = start[cells] - from.start[first];
            System.arraycopy(from.target, from.start[first], target, start[cells],
                    from.start[behind] - from.start[first]);
            for (int k = 1; k <= many; k++) {
                start[cells + k] = from.start[first + k] + further;
            }
            cells += many;
            return true;
        }
    }

    /** Makes of a state the draft of the next one; an EDIT that answers false is refused. */
    private static final class Edits {
        final Contents contents;
        /** The targets of the CONTENT that is written. */
        final int[] moving = new int[REFS];
        State now;
        State draft;
        boolean columns;
        boolean inserting;
        int line;
        int lines;

        Edits(Contents contents) {
            this.contents = contents;
        }

        void open(State present, State next) {
            now = present;
            draft = next;
            draft.cells = 0;
        }

        boolean replaced(int place, int content) {
            System.arraycopy(contents.target, contents.refStart[content], moving, 0, contents.refs[content]);
            int column = place % WIDTH;
            int row = place / WIDTH;
            return written(content, place, column, row, column, row);
        }

        boolean filled(int from, int c, int r, int d, int s) {
            int entry = now.entryFrom(from);
            int content = NOTHING;
            if (entry < now.cells && now.place[entry] == from) {
                content = now.content[entry];
                System.arraycopy(now.target, now.start[entry], moving, 0, now.refs(entry));
            }
            return written(content, from, c, r, d, s);
        }

        private boolean written(int content, int from, int c, int r, int d, int s) {
            int copied = 0;
            for (int row = r; row <= s; row++) {
                if (!draft.addRun(now, copied, now.entryFrom(place(c, row)))) {
                    return false;
                }
                copied = now.entryFrom(place(d, row) + 1);
                for (int column = c; column <= d && content != NOTHING; column++) {
                    if (draft.cells == CELLS) {
                        return false;
                    }
                    addMoved(content, place(column, row), column - from % WIDTH, row - from / WIDTH);
                }
            }
            return draft.addRun(now, copied, now.cells) && rangesFit();
        }

        private void addMoved(int content, int place, int right, int down) {
            draft.addEntry(place, content);
            int shapes = contents.refStart[content];
            for (int k = 0; k < contents.refs[content]; k++) {
                int shape = contents.shape[shapes + k];
                int target = moved(moving[k], shape, right, down);
                boolean second = (shape & SECOND_CORNER) != 0;
                int before = draft.start[draft.cells] - 1;
                if (second && draft.target[before] == GONE) {
                    target = GONE;
                } else if (second && target == GONE) {
                    draft.target[before] = GONE;
                }
                draft.addTarget(target);
            }
        }

        private static int moved(int target, int shape, int right, int down) {
            if (target == GONE) {
                return GONE;
            }
            int column = target % WIDTH + ((shape & FIXED_COLUMN) != 0 ? 0 : right);
            int row = target / WIDTH + ((shape & FIXED_ROW) != 0 ? 0 : down);
            boolean there = column >= 0 && column < WIDTH && row >= 0 && row < HEIGHT;
            return there ? place(column, row) : GONE;
        }

        boolean shifted(boolean ofColumns, boolean coming, int i, int n) {
            columns = ofColumns;
            inserting = coming;
            line = i;
            lines = n;
            for (int k = 0; k < now.cells; k++) {
                int place = followed(now.place[k]);
                if (place != GONE) {
                    draft.addEntry(place, now.content[k]);
                    addFollowed(k);
                } else if (inserting) {
                    return false;
                }
            }
            return rangesFit();
        }

        private void addFollowed(int entry) {
            int shapes = contents.refStart[now.content[entry]] - now.start[entry];
            for (int k = now.start[entry]; k < now.start[entry + 1]; k++) {
                boolean range = (contents.shape[shapes + k] & FIRST_CORNER) != 0;
                if (range && now.target[k] != GONE) {
                    addFollowedRange(now.target[k], now.target[k + 1]);
                    k++;
                } else {
                    draft.addTarget(followed(now.target[k]));
                }
            }
        }

        private void addFollowedRange(int one, int other) {
            int a = lineOf(one);
            int b = lineOf(other);
            int first = followedFirst(Math.min(a, b));
            int last = followedLast(Math.max(a, b));
            boolean left = first <= last;
            draft.addTarget(left ? onLine(one, a <= b ? first : last) : GONE);
            draft.addTarget(left ? onLine(other, a <= b ? last : first) : GONE);
        }

        private int lineOf(int place) {
            return columns ? place % WIDTH : place / WIDTH;
        }

        private int onLine(int place, int newLine) {
            return columns ? place(newLine, place / WIDTH) : place(place % WIDTH, newLine);
        }

        private int followed(int place) {
            if (place == GONE) {
                return GONE;
            }
            int old = lineOf(place);
            int first = followedFirst(old);
            return first <= followedLast(old) ? onLine(place, first) : GONE;
        }

        /** Where the first of some lines that end a RANGE comes to be, if it or one behind it is left. */
        private int followedFirst(int old) {
            if (old < line) {
                return old;
            }
            return inserting ? old + lines : Math.max(old - lines, line);
        }

        /** Where the last of some lines comes to be, if it or one before it is left. */
        private int followedLast(int old) {
            if (old < line) {
                return old;
            }
            if (inserting) {
                return Math.min(old + lines, GridLedger.lines(columns) - 1);
            }
            return Math.max(old - lines, line - 1);
        }

        private boolean rangesFit() {
            int sum = 0;
            for (int k = 0; k < draft.cells; k++) {
                if (contents.ranges[draft.content[k]] > 0) {
                    sum += rangeCells(k);
                }
            }
            return sum <= RANGE_CELLS;
        }

        private int rangeCells(int entry) {
            int shapes = contents.refStart[draft.content[entry]] - draft.start[entry];
            int sum = 0;
            for (int k = draft.start[entry]; k < draft.start[entry + 1]; k++) {
                int one = draft.target[k];
                if ((contents.shape[shapes + k] & FIRST_CORNER) != 0 && one != GONE) {
                    int other = draft.target[k + 1];
                    int wide = Math.abs(one % WIDTH - other % WIDTH) + 1;
                    int high = Math.abs(one / WIDTH - other / WIDTH) + 1;
                    sum += wide * high;
                }
            }
            return sum;
        }
    }

    /** Finds an order in which each CELL comes behind those that it reads, and which CELLS read themselves. */
    private static final class Order {
        static final int WORDS = (CELLS + 63) / 64;
        static final int MOST_STEPS = CELLS * (CELLS + 2);

        final Contents contents;
        /** Entry k reads entry j if bit j is set in its words. */
        final long[] reads = new long[CELLS * WORDS];
        final int[] sorted = new int[CELLS];
        final boolean[] circular = new boolean[CELLS];
        /** As in Tarjan's search: when each was met, 0 if not yet, and the earliest one that leads back to. */
        final int[] met = new int[CELLS];
        final int[] earliest = new int[CELLS];
        final int[] waiting = new int[CELLS];
        final boolean[] waits = new boolean[CELLS];
        final int[] path = new int[CELLS];
        final int[] nextRead = new int[CELLS];
        int meetings;
        int waitingSize;
        int sortedSize;

        Order(Contents contents) {
            this.contents = contents;
        }

        void arrange(State state, int[] at) {
            for (int k = 0; k < state.cells * WORDS; k++) {
                reads[k] = 0;
            }
            for (int k = 0; k < state.cells; k++) {
                markReads(state, at, k);
                met[k] = 0;
            }
            meetings = 0;
            sortedSize = 0;
            for (int k = 0; k < state.cells; k++) {
                if (met[k] == 0) {
                    search(k);
                }
            }
        }

        private void markReads(State state, int[] at, int entry) {
            int shapes = contents.refStart[state.content[entry]] - state.start[entry];
            for (int k = state.start[entry]; k < state.start[entry + 1]; k++) {
                int place = state.target[k];
                if (place != GONE && (contents.shape[shapes + k] & FIRST_CORNER) != 0) {
                    markRange(entry, at, place, state.target[k + 1]);
                } else if (place != GONE) {
                    mark(entry, at[place]);
                }
            }
        }

        private void markRange(int entry, int[] at, int one, int other) {
            int firstColumn = Math.min(one % WIDTH, other % WIDTH);
            int lastColumn = Math.max(one % WIDTH, other % WIDTH);
            int lastRow = Math.max(one / WIDTH, other / WIDTH);
            for (int row = Math.min(one / WIDTH, other / WIDTH); row <= lastRow; row++) {
                for (int column = firstColumn; column <= lastColumn; column++) {
                    mark(entry, at[place(column, row)]);
                }
            }
        }

        private void mark(int entry, int read) {
            if (read != NO_ENTRY) {
                reads[entry * WORDS + (read >> 6)] |= 1L << (read & 63);
            }
        }

        private void search(int root) {
            int depth = 1;
            path[0] = root;
            meet(root);
            for (int left = MOST_STEPS; left > 0 && depth > 0; left--) {
                int entry = path[depth - 1];
                int read = takeRead(entry);
                if (read == NO_ENTRY) {
                    leave(entry);
                    depth--;
                    if (depth > 0) {
                        leadBack(path[depth - 1], earliest[entry]);
                    }
                } else if (met[read] == 0) {
                    meet(read);
                    path[depth] = read;
                    depth++;
                } else if (waits[read]) {
                    leadBack(entry, met[read]);
                }
            }
        }

        private void meet(int entry) {
            meetings++;
            met[entry] = meetings;
            earliest[entry] = meetings;
            nextRead[entry] = 0;
            waiting[waitingSize] = entry;
            waits[entry] = true;
            waitingSize++;
        }

        private void leadBack(int entry, int meeting) {
            earliest[entry] = Math.min(earliest[entry], meeting);
        }

        private int takeRead(int entry) {
            int from = nextRead[entry];
            long wanted = -1L << (from & 63);
            for (int word = from >> 6; word < WORDS; word++) {
                long bits = reads[entry * WORDS + word] & wanted;
                if (bits != 0) {
                    int read = word * 64 + Long.numberOfTrailingZeros(bits);
                    nextRead[entry] = read + 1;
                    return read;
                }
                wanted = -1L;
            }
            return NO_ENTRY;
        }

        /** All that wait since this one was met read one another, if it leads back to none before it. */
        private void leave(int entry) {
            if (earliest[entry] != met[entry]) {
                return;
            }
            boolean several = waiting[waitingSize - 1] != entry;
            boolean itself = (reads[entry * WORDS + (entry >> 6)] >> (entry & 63) & 1) != 0;
            boolean more = true;
            while (more && waitingSize > 0) {
                waitingSize--;
                int other = waiting[waitingSize];
                waits[other] = false;
                circular[other] = several || itself;
                sorted[sortedSize] = other;
                sortedSize++;
                more = other != entry;
            }
        }
    }

    /** The VALUES of the state that is shown, and which of them are others than before. */
    private static final class Results {
        /** The entry at each place; NO_ENTRY is a row of VALUES too, and EMPTY. */
        final int[] at = new int[PLACES];
        final int[] change = new int[2 * CELLS];
        final Order order;
        final Machine machine;
        Values values = new Values(CELLS + 1);
        Values before = new Values(CELLS + 1);
        State shown;
        int changes;

        Results(Contents contents, State shown) {
            this.shown = shown;
            order = new Order(contents);
            machine = new Machine(contents, at, shown, values);
            for (int k = 0; k < PLACES; k++) {
                at[k] = NO_ENTRY;
            }
        }

        /** Answers how many VALUES are others than those of the state that was shown before. */
        int follow(State state) {
            State old = shown;
            Values oldValues = values;
            values = before;
            before = oldValues;
            shown = state;
            for (int k = 0; k < old.cells; k++) {
                at[old.place[k]] = NO_ENTRY;
            }
            for (int k = 0; k < state.cells; k++) {
                at[state.place[k]] = k;
            }
            order.arrange(state, at);
            machine.open(state, values);
            for (int k = 0; k < state.cells; k++) {
                int entry = order.sorted[k];
                if (order.circular[entry]) {
                    values.set(entry, ERROR, CYCLE);
                } else {
                    machine.run(entry);
                    values.setFrom(entry, machine.stack, 0);
                }
            }
            compareWith(old);
            return changes;
        }

        /** A CELL with CONTENT is never EMPTY, so where one comes or goes, the VALUE is another. */
        private void compareWith(State old) {
            changes = 0;
            int i = 0;
            int k = 0;
            for (int left = old.cells + shown.cells; left > 0 && (i < old.cells || k < shown.cells); left--) {
                int oldPlace = i < old.cells ? old.place[i] : PLACES;
                int place = k < shown.cells ? shown.place[k] : PLACES;
                if (oldPlace != place || !values.same(k, before, i)) {
                    change[changes] = Math.min(oldPlace, place);
                    changes++;
                }
                i += oldPlace <= place ? 1 : 0;
                k += place <= oldPlace ? 1 : 0;
            }
        }

        int cycles(int cells) {
            int many = 0;
            for (int k = 0; k < cells; k++) {
                if (values.kind[k] == ERROR && values.number[k] == CYCLE) {
                    many++;
                }
            }
            return many;
        }
    }
}
