/** Promise 4: put, and what TYPED says; the limits that refuse it. What FORMULAS are worth has tests of its own. */
public final class Promise04PutTest {
    public static void main(String[] args) {
        kinds();
        numbers();
        badInput();
        badPlaces();
        inputIsEmptyWhateverHappens();
        answersHowManyChanged();
        cellLimit();
        rangeLimit();
        Check.finish();
    }

    private static void typed(String text, int kind, String shown) {
        Sheet sheet = new Sheet();
        sheet.put("C3", "before");
        sheet.type(text);
        String answer = Sheet.of(() -> sheet.ledger.put(2, 2));
        Check.same(text, answer, "1");
        Check.same(text + " kind", sheet.ledger.content(2, 2, 0), kind);
        Check.same(text + " shown", sheet.show("C3"), shown);
    }

    private static void kinds() {
        typed("", 0, "empty");
        typed("5", 1, "5");
        typed("five", 2, "'five'");
        typed(" ", 2, "' '");
        typed("~", 2, "'~'");
        typed("=5", 3, "5");
        typed("=", 3, "#syntax");
        typed("= ", 3, "#syntax");
        typed(" =5", 2, "' =5'");
        typed("TRUE", 2, "'TRUE'");
        typed("x".repeat(64), 2, "'" + "x".repeat(64) + "'");
        typed("=" + " ".repeat(199) + "7", 3, "7");
        typed("=" + "(".repeat(200), 3, "#syntax");
    }

    private static void numbers() {
        typed("0", 1, "0");
        typed("-0", 1, "0");
        typed("-12", 1, "-12");
        typed("007", 1, "7");
        typed("-007", 1, "-7");
        typed("9223372036854775807", 1, "9223372036854775807");
        typed("-9223372036854775808", 1, "-9223372036854775808");
        typed("9223372036854775808", 2, "'9223372036854775808'");
        typed("-9223372036854775809", 2, "'-9223372036854775809'");
        typed("10000000000000000000", 2, "'10000000000000000000'");
        typed("99999999999999999999", 2, "'99999999999999999999'");
        typed("00000000000000000000009223372036854775807", 1, "9223372036854775807");
        typed("0".repeat(239) + "3", 1, "3");
        typed("-" + "0".repeat(239), 1, "0");
        typed("-", 2, "'-'");
        typed("--1", 2, "'--1'");
        typed("+1", 2, "'+1'");
        typed("1 ", 2, "'1 '");
        typed(" 1", 2, "' 1'");
        typed("1.5", 2, "'1.5'");
        typed("1-", 2, "'1-'");
        typed("1e3", 2, "'1e3'");
    }

    private static void badInput() {
        String[] bad = {
            "\n", "\0", "a\u001f", "\u007f", "\u0080x", "\u00ff", "=1\t", "12\0", "x".repeat(65), "=" + "1".repeat(201),
            "=" + " ".repeat(200) + "1", "1".repeat(65), "x".repeat(240)
        };
        for (String text : bad) {
            Sheet sheet = new Sheet();
            sheet.put("A1", "old");
            sheet.put("B1", "=A1");
            sheet.undo();
            String before = sheet.counts();
            Check.same("bad " + text, sheet.put("A1", text), "IllegalArgumentException");
            Check.same("nothing changed", sheet.show("A1"), "'old'");
            Check.same("counts", sheet.counts(), before);
            Check.same("redo is still there", sheet.redo(), "1");
        }
    }

    private static void badPlaces() {
        int[][] places = {{-1, 0}, {26, 0}, {0, -1}, {0, 200}, {Integer.MIN_VALUE, 5}, {5, Integer.MAX_VALUE}, {26, 199}};
        for (int[] place : places) {
            Sheet sheet = new Sheet();
            sheet.type("5");
            Check.same("place", Sheet.of(() -> sheet.ledger.put(place[0], place[1])), "IllegalArgumentException");
            Check.same("counts", sheet.counts(), "0 0 0 0 0 0 0 0");
        }
        Sheet sheet = new Sheet();
        Check.same("last place", sheet.put("Z200", "5"), "1");
        Check.same("Z200", sheet.show("Z200"), "5");
        Check.same("changed", sheet.changes(), "Z200");
    }

    private static void inputIsEmptyWhateverHappens() {
        Sheet sheet = new Sheet();
        sheet.put("A1", "abc");
        Check.same("behind put", sheet.ledger.count(0), 0);
        sheet.put("A1", "\n");
        Check.same("behind a bad one", sheet.ledger.count(0), 0);
        sheet.type("abc");
        Check.same("bad place", Sheet.of(() -> sheet.ledger.put(26, 0)), "IllegalArgumentException");
        Check.same("behind a bad place", sheet.ledger.count(0), 0);
        sheet.put("B1", "=SUM(A1:Z200)+SUM(A1:Z200)+SUM(A1:Z200)");
        Check.same("refused", sheet.put("B2", "=SUM(A1:Z200)"), "IllegalStateException");
        Check.same("behind a refused one", sheet.ledger.count(0), 0);
    }

    private static void answersHowManyChanged() {
        Sheet sheet = new Sheet();
        Check.same("new", sheet.put("A1", "5"), "1");
        Check.same("the same once more", sheet.put("A1", "5"), "0");
        Check.same("the same VALUE by a FORMULA", sheet.put("A1", "=2+3"), "0");
        Check.same("it is one", sheet.ledger.content(0, 0, 0), 3);
        Check.same("a reader", sheet.put("B1", "=A1*2"), "1");
        Check.same("and its reader", sheet.put("C1", "=B1>4"), "1");
        Check.same("two of three", sheet.put("A1", "6"), "2");
        Check.same("which", sheet.changes(), "A1 B1");
        Check.same("another sort", sheet.put("A1", "=\"6\""), "1");
        Check.same("nothing on nothing", sheet.put("Z9", ""), "0");
        Check.same("is an EDIT", sheet.ledger.count(7), 8);
        Check.same("gone", sheet.put("A1", ""), "3");
        Check.same("C1", sheet.show("C1"), "FALSE");
        Check.same("0 instead of EMPTY", sheet.put("A1", "0"), "1");
    }

    private static void cellLimit() {
        Sheet sheet = new Sheet();
        sheet.put("A1", "1");
        Check.same("400", sheet.fill("A1", "A1", "B200"), "399");
        String before = sheet.counts();
        Check.same("one more", sheet.put("C1", "1"), "IllegalStateException");
        Check.same("counts", sheet.counts(), before);
        Check.same("C1", sheet.show("C1"), "empty");
        Check.same("bad goes first", sheet.put("C1", "\n"), "IllegalArgumentException");
        Check.same("nothing", sheet.put("C1", ""), "0");
        Check.same("instead of another", sheet.put("B200", "2"), "1");
        Check.same("less", sheet.put("A1", ""), "1");
        Check.same("again 400", sheet.put("C1", "1"), "1");
        Check.same("and no more", sheet.put("C2", "=1"), "IllegalStateException");
    }

    private static void rangeLimit() {
        Sheet sheet = new Sheet();
        Check.same("19968", sheet.put("Y200", "=ROWS(A1:Z192)+ROWS(Z192:A1)+ROWS(A192:Z1)+ROWS(Z1:A192)"), "1");
        Check.same("20000", sheet.put("Y199", "=ROWS(C1:D16)"), "1");
        Check.same("a REF is no RANGE", sheet.put("Y198", "=SUM(D1)+D2"), "1");
        String before = sheet.counts();
        Check.same("20001", sheet.put("Y197", "=SUM(E1:E1)"), "IllegalStateException");
        Check.same("also where it's an ERROR", sheet.put("Y197", "=NOSUCH(E1:E1)"), "IllegalStateException");
        Check.same("also where it's not taken", sheet.put("Y197", "=IF(TRUE,1,SUM(E1:E1))"), "IllegalStateException");
        Check.same("counts", sheet.counts(), before);
        Check.same("not in what is none", sheet.put("Y197", "=SUM(E1:E1)+"), "1");
        Check.same("instead of another", sheet.put("Y199", "=ROWS(C1:C31)"), "1");
        Check.same("room for one", sheet.put("Y197", "=SUM(E1:E1)"), "1");
        Check.same("not for two", sheet.put("Y197", "=SUM(E1:E2)"), "IllegalStateException");
        Sheet other = new Sheet();
        Check.same("in one FORMULA", other.put("A1", "=ROWS(A1:Z200)+ROWS(A1:Z200)+ROWS(A1:Z200)+ROWS(A1:Z200)"),
                "IllegalStateException");
    }
}
