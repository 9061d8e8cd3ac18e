/** The boundary cases of promise 4 and of TYPED, a test for each. */
public final class EdgesOfPutTest {
    private static final String BAD = "IllegalArgumentException";
    private static final String REFUSED = "IllegalStateException";

    public static void main(String[] args) {
        Check.sentence("no byte: nothing", EdgesOfPutTest::noByte);
        Check.sentence("a NUMBER: digits that make a long: the highest", EdgesOfPutTest::highestLong);
        Check.sentence("a NUMBER: digits that make a long: the lowest", EdgesOfPutTest::lowestLong);
        Check.sentence("a NUMBER: perhaps -, then digits", EdgesOfPutTest::minusAndDigits);
        Check.sentence("a NUMBER is as long as its digits make a long", EdgesOfPutTest::zerosBefore);
        Check.sentence("else a TEXT: of 1 byte", EdgesOfPutTest::shortTexts);
        Check.sentence("else a TEXT: of 64 bytes", EdgesOfPutTest::longestText);
        Check.sentence("or longer: bad: a TEXT of 65 bytes", EdgesOfPutTest::tooLongText);
        Check.sentence("a FORMULA, if it begins with =", EdgesOfPutTest::beginsWithEqual);
        Check.sentence("of what's behind it, at most 200 bytes", EdgesOfPutTest::longestFormula);
        Check.sentence("or longer: bad: 201 bytes behind =", EdgesOfPutTest::tooLongFormula);
        Check.sentence("bytes 32 .. 126: both ends", EdgesOfPutTest::bytesThatAreFine);
        Check.sentence("Other bytes than 32 .. 126: bad", EdgesOfPutTest::bytesThatAreBad);
        Check.sentence("INPUT is empty then, whatever happens", EdgesOfPutTest::inputIsEmptyThen);
        Check.sentence("COLUMN out of range: bad", EdgesOfPutTest::columns);
        Check.sentence("ROW out of range: bad", EdgesOfPutTest::rows);
        Check.sentence("a bad put changes nothing but INPUT", EdgesOfPutTest::badChangesNothing);
        Check.sentence("Answers how many are CHANGED: none", EdgesOfPutTest::noneChanged);
        Check.sentence("Answers how many are CHANGED: with all that read it", EdgesOfPutTest::readersChanged);
        Check.finish();
    }

    /** What C3 is when this was put there: its CONTENT's sort and its VALUE. */
    private static String typed(String input) {
        Sheet sheet = new Sheet();
        sheet.put("C3", "before");
        String answer = sheet.put("C3", input);
        return answer.equals("1") ? sheet.ledger.content(2, 2, 0) + " " + sheet.show("C3") : answer;
    }

    private static void noByte() {
        Check.same("a CELL with CONTENT", typed(""), "0 empty");
        Sheet sheet = new Sheet();
        sheet.put("A1", "5");
        Check.same("on nothing", sheet.put("B1", ""), "0");
        Check.same("it is an EDIT", sheet.ledger.count(2), 2);
        Check.same("on a NUMBER", sheet.put("A1", ""), "1");
        Check.same("no CELL with CONTENT", sheet.ledger.count(4), 0);
        sheet.type("abc");
        sheet.ledger.end(3);
        Check.same("all bytes went before", Sheet.of(() -> sheet.ledger.put(0, 0)), "0");
    }

    private static void highestLong() {
        Check.same("the highest", typed("9223372036854775807"), "1 9223372036854775807");
        Check.same("one beyond", typed("9223372036854775808"), "2 '9223372036854775808'");
        Check.same("ten beyond", typed("9223372036854775817"), "2 '9223372036854775817'");
        Check.same("a digit more", typed("10000000000000000000"), "2 '10000000000000000000'");
        Check.same("2 ^ 64 + 1 is not 1", typed("18446744073709551617"), "2 '18446744073709551617'");
    }

    private static void lowestLong() {
        Check.same("the lowest", typed("-9223372036854775808"), "1 -9223372036854775808");
        Check.same("one beyond", typed("-9223372036854775809"), "2 '-9223372036854775809'");
        Check.same("ten beyond", typed("-9223372036854775818"), "2 '-9223372036854775818'");
        Check.same("a digit more", typed("-10000000000000000000"), "2 '-10000000000000000000'");
        Check.same("-(2 ^ 64 + 1) is not -1", typed("-18446744073709551617"), "2 '-18446744073709551617'");
    }

    private static void minusAndDigits() {
        Check.same("a digit", typed("0"), "1 0");
        Check.same("the highest digit", typed("9"), "1 9");
        Check.same("- and a digit", typed("-9"), "1 -9");
        Check.same("-0", typed("-0"), "1 0");
        Check.same("no digit", typed("-"), "2 '-'");
        Check.same("two -", typed("--1"), "2 '--1'");
        Check.same("- behind", typed("1-"), "2 '1-'");
        Check.same("+", typed("+1"), "2 '+1'");
        Check.same("a space behind", typed("1 "), "2 '1 '");
        Check.same("a space before", typed(" 1"), "2 ' 1'");
        Check.same("a space between", typed("- 1"), "2 '- 1'");
        Check.same("the byte before 0", typed("1/"), "2 '1/'");
        Check.same("the byte behind 9", typed("1:"), "2 '1:'");
    }

    private static void zerosBefore() {
        Check.same("007", typed("007"), "1 7");
        Check.same("zeros before the highest", typed("0".repeat(20) + "9223372036854775807"), "1 9223372036854775807");
        Check.same("zeros before one beyond", typed("0".repeat(20) + "9223372036854775808"),
                "2 '" + "0".repeat(20) + "9223372036854775808'");
        Check.same("240 bytes", typed("-" + "0".repeat(238) + "3"), "1 -3");
        Check.same("65 digits that make no long", typed("1".repeat(65)), BAD);
    }

    private static void shortTexts() {
        Check.same("a letter", typed("x"), "2 'x'");
        Check.same("a space", typed(" "), "2 ' '");
        Check.same("a quote", typed("\""), "2 '\"'");
    }

    private static void longestText() {
        Check.same("63 bytes", typed("x".repeat(63)), "2 '" + "x".repeat(63) + "'");
        Check.same("64 bytes", typed("x".repeat(63) + "y"), "2 '" + "x".repeat(63) + "y'");
    }

    private static void tooLongText() {
        Check.same("65 bytes", typed("x".repeat(65)), BAD);
        Check.same("65 bytes with = behind", typed(" =" + "1".repeat(63)), BAD);
        Check.same("240 bytes", typed("x".repeat(240)), BAD);
    }

    private static void beginsWithEqual() {
        Check.same("just =", typed("="), "3 #syntax");
        Check.same("=1", typed("=1"), "3 1");
        Check.same("a space before it", typed(" =1"), "2 ' =1'");
        Check.same("= behind", typed("1="), "2 '1='");
    }

    private static void longestFormula() {
        Check.same("64 bytes behind =", typed("=" + " ".repeat(63) + "7"), "3 7");
        Check.same("199 bytes behind =", typed("=" + " ".repeat(198) + "7"), "3 7");
        Check.same("200 bytes behind =", typed("=" + " ".repeat(199) + "7"), "3 7");
        Check.same("200 bytes that are no FORMULA's", typed("=" + "(".repeat(200)), "3 #syntax");
        Check.same("200 digits that make a long", typed("=" + "0".repeat(199) + "7"), "3 7");
    }

    private static void tooLongFormula() {
        Check.same("201 bytes behind =", typed("=" + " ".repeat(200) + "7"), BAD);
        Check.same("a space behind 200", typed("=" + " ".repeat(199) + "7 "), BAD);
        Check.same("201 bytes that are no FORMULA's", typed("=" + "(".repeat(201)), BAD);
        Check.same("239 bytes behind =", typed("=" + "1".repeat(239)), BAD);
    }

    private static void bytesThatAreFine() {
        Check.same("32", typed("a\u0020b"), "2 'a b'");
        Check.same("126", typed("a\u007eb"), "2 'a~b'");
        Check.same("in a STRING", typed("=\"\u0020\u007e\""), "3 ' ~'");
        for (int b = 32; b <= 126; b++) {
            Check.same("byte " + b, typed("a" + (char) b), "2 'a" + (char) b + "'");
        }
    }

    private static void bytesThatAreBad() {
        int[] bad = {0, 1, 9, 10, 13, 31, 127, 128, 160, 254, 255};
        for (int b : bad) {
            Check.same("alone " + b, typed("" + (char) b), BAD);
            Check.same("first " + b, typed((char) b + "x"), BAD);
            Check.same("last " + b, typed("x" + (char) b), BAD);
            Check.same("behind digits " + b, typed("12" + (char) b), BAD);
            Check.same("in a FORMULA " + b, typed("=1" + (char) b), BAD);
            Check.same("in a STRING " + b, typed("=\"" + (char) b + "\""), BAD);
        }
    }

    private static void emptyBehind(Sheet sheet, String input, int column, int row, String due) {
        sheet.type(input);
        Check.same("put of " + input, Sheet.of(() -> sheet.ledger.put(column, row)), due);
        Check.same("length behind " + input, sheet.ledger.count(0), 0);
        Check.same("end", Sheet.of(() -> sheet.ledger.end(1)), BAD);
        sheet.type("k");
        sheet.ledger.put(25, 0);
        Check.same("what comes then", sheet.show("Z1"), "'k'");
    }

    private static void inputIsEmptyThen() {
        Sheet sheet = new Sheet();
        emptyBehind(sheet, "abc", 0, 0, "1");
        emptyBehind(sheet, "", 0, 0, "1");
        emptyBehind(sheet, "=1+", 0, 0, "1");
        emptyBehind(sheet, "a\n", 0, 0, BAD);
        emptyBehind(sheet, "x".repeat(65), 0, 0, BAD);
        emptyBehind(sheet, "=" + "1".repeat(201), 0, 0, BAD);
        emptyBehind(sheet, "abc", 26, 0, BAD);
        emptyBehind(sheet, "abc", 0, -1, BAD);
        sheet.put("B1", "=ROWS(A1:Z200)+ROWS(A1:Z200)+ROWS(A1:Z200)");
        emptyBehind(sheet, "=ROWS(A1:Z200)", 2, 0, REFUSED);
        Sheet full = new Sheet();
        full.put("Z1", "1");
        full.fill("Z1", "A1", "B199");
        full.put("A200", "1");
        Check.same("400", full.ledger.count(4), 400);
        emptyBehind(full, "1", 1, 199, REFUSED);
    }

    private static void place(int column, int row, String due) {
        Sheet sheet = new Sheet();
        sheet.type("5");
        Check.same("put(" + column + ", " + row + ")", Sheet.of(() -> sheet.ledger.put(column, row)), due);
        Check.same("CELLS", sheet.ledger.count(4), due.equals("1") ? 1 : 0);
        if (due.equals("1")) {
            Check.same("changed", sheet.ledger.changed(0), column + 26 * row);
        }
    }

    private static void columns() {
        place(0, 7, "1");
        place(25, 7, "1");
        place(-1, 7, BAD);
        place(26, 7, BAD);
        place(Integer.MIN_VALUE, 7, BAD);
        place(Integer.MAX_VALUE, 7, BAD);
    }

    private static void rows() {
        place(7, 0, "1");
        place(7, 199, "1");
        place(7, -1, BAD);
        place(7, 200, BAD);
        place(7, Integer.MIN_VALUE, BAD);
        place(7, Integer.MAX_VALUE, BAD);
    }

    private static void badChangesNothing() {
        Sheet sheet = new Sheet();
        sheet.put("A1", "old");
        sheet.put("B1", "=A1");
        sheet.put("B1", "=A1&A1");
        sheet.undo();
        String before = sheet.picture("A1", "B1");
        Check.same("bytes", sheet.put("A1", "a\n"), BAD);
        Check.same("length", sheet.put("A1", "x".repeat(65)), BAD);
        sheet.type("new");
        Check.same("place", Sheet.of(() -> sheet.ledger.put(-1, 0)), BAD);
        Check.same("all as before", sheet.picture("A1", "B1"), before);
        Check.same("redo is still there", sheet.redo(), "1");
        Check.same("B1", sheet.show("B1"), "'oldold'");
    }

    private static void noneChanged() {
        Sheet sheet = new Sheet();
        sheet.put("A1", "5");
        sheet.put("B1", "=A1");
        Check.same("the same", sheet.put("A1", "5"), "0");
        Check.same("the same VALUE", sheet.put("A1", "=2+3"), "0");
        Check.same("what it is now", sheet.ledger.content(0, 0, 0), 3);
    }

    private static void readersChanged() {
        Sheet sheet = new Sheet();
        sheet.put("A1", "5");
        sheet.put("B1", "=A1");
        sheet.put("C1", "=SUM(B1:B2)");
        sheet.put("D1", "=C1>0");
        Check.same("A1, B1, C1, not D1", sheet.put("A1", "6"), "3");
        Check.same("all", sheet.put("A1", "-6"), "4");
    }
}
