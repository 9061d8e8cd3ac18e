/** The boundary cases of promises 10 to 13, a test for each: value, letter, content, reference. */
public final class EdgesOfAnswersTest {
    private static final String BAD = "IllegalArgumentException";
    private static final String NOT_THERE = "NoSuchElementException";
    private static final int[] BAD_COLUMNS = {-1, 26, 27, Integer.MIN_VALUE, Integer.MAX_VALUE};
    private static final int[] BAD_ROWS = {-1, 200, 201, Integer.MIN_VALUE, Integer.MAX_VALUE};

    public static void main(String[] args) {
        Check.sentence("value: COLUMN, ROW out of range: bad", EdgesOfAnswersTest::valuePlaces);
        Check.sentence("value: what out of range: bad", EdgesOfAnswersTest::valueWhats);
        Check.sentence("value: EMPTY: 0, and 0", EdgesOfAnswersTest::valueOfEmpty);
        Check.sentence("value: the NUMBER, both ends of a long", EdgesOfAnswersTest::valueOfNumbers);
        Check.sentence("value: of TEXTS their length: 0 to 64", EdgesOfAnswersTest::valueOfTexts);
        Check.sentence("value: 1 or 0 of TRUTHS", EdgesOfAnswersTest::valueOfTruths);
        Check.sentence("value: of ERRORS their number", EdgesOfAnswersTest::valueOfErrors);
        Check.sentence("letter: COLUMN, ROW out of range: bad", EdgesOfAnswersTest::letterPlaces);
        Check.sentence("letter: byte i: both ends", EdgesOfAnswersTest::letterEnds);
        Check.sentence("letter: not there: behind the last, below 0", EdgesOfAnswersTest::letterNotThere);
        Check.sentence("letter: not there: a TEXT of no byte", EdgesOfAnswersTest::letterOfNoByte);
        Check.sentence("letter: not there: a VALUE that is no TEXT", EdgesOfAnswersTest::letterOfNoText);
        Check.sentence("content: COLUMN, ROW out of range: bad", EdgesOfAnswersTest::contentPlaces);
        Check.sentence("content: what out of range: bad", EdgesOfAnswersTest::contentWhats);
        Check.sentence("content: 0 nothing, 1 NUMBER, 2 TEXT, 3 FORMULA", EdgesOfAnswersTest::contentSorts);
        Check.sentence("content: of FORMULAS how many REFS and corners", EdgesOfAnswersTest::contentRefs);
        Check.sentence("content: of which GONE, a RANGE's are two", EdgesOfAnswersTest::contentGone);
        Check.sentence("content: else 0", EdgesOfAnswersTest::contentElse);
        Check.sentence("reference: COLUMN, ROW out of range: bad", EdgesOfAnswersTest::referencePlaces);
        Check.sentence("reference: COLUMN + 26 * ROW: both ends", EdgesOfAnswersTest::referenceEnds);
        Check.sentence("reference: from 0, as they stand", EdgesOfAnswersTest::referenceOrder);
        Check.sentence("reference: -1 if it's GONE", EdgesOfAnswersTest::referenceGone);
        Check.sentence("reference: not there: behind the last, below 0", EdgesOfAnswersTest::referenceNotThere);
        Check.sentence("reference: not there: no FORMULA, or no REFS", EdgesOfAnswersTest::referenceOfNone);
        Check.sentence("questions change nothing", EdgesOfAnswersTest::questionsChangeNothing);
        Check.finish();
    }

    private static Sheet with(String cell, String content) {
        Sheet sheet = new Sheet();
        sheet.put(cell, content);
        return sheet;
    }

    /** What VALUE A1 has, by both numbers. */
    private static String value(String content) {
        Sheet sheet = with("A1", content);
        return sheet.ledger.value(0, 0, 0) + " " + sheet.ledger.value(0, 0, 1);
    }

    private static void valuePlaces() {
        GridLedger ledger = new GridLedger();
        for (int what = 0; what < 2; what++) {
            int asked = what;
            for (int column : BAD_COLUMNS) {
                Check.same("COLUMN " + column, Sheet.of(() -> ledger.value(column, 0, asked)), BAD);
            }
            for (int row : BAD_ROWS) {
                Check.same("ROW " + row, Sheet.of(() -> ledger.value(0, row, asked)), BAD);
            }
        }
        Check.same("A1", with("A1", "7").ledger.value(0, 0, 1), 7);
        Check.same("Z1", with("Z1", "7").ledger.value(25, 0, 1), 7);
        Check.same("A200", with("A200", "7").ledger.value(0, 199, 1), 7);
        Check.same("Z200", with("Z200", "7").ledger.value(25, 199, 1), 7);
    }

    private static void valueWhats() {
        for (int what : new int[] {-1, 2, 3, Integer.MIN_VALUE, Integer.MAX_VALUE}) {
            Check.same("of EMPTY " + what, Sheet.of(() -> new GridLedger().value(0, 0, what)), BAD);
            Check.same("of a NUMBER " + what, Sheet.of(() -> with("A1", "7").ledger.value(0, 0, what)), BAD);
        }
    }

    private static void valueOfEmpty() {
        Check.same("of a new object", value(""), "0 0");
        Sheet sheet = with("A1", "five");
        sheet.put("A1", "");
        Check.same("where a TEXT was", sheet.ledger.value(0, 0, 0) + " " + sheet.ledger.value(0, 0, 1), "0 0");
        Check.same("a FORMULA is 0 then", value("=B1"), "1 0");
        Check.same("a FORMULA is 0 then", value("=IF(TRUE,B1,5)"), "1 0");
        Check.same("a FORMULA is 0 then", value("=INDEX(B1:C2,1,1)"), "1 0");
    }

    private static void valueOfNumbers() {
        Check.same("0", value("0"), "1 0");
        Check.same("-1", value("-1"), "1 -1");
        Check.same("the highest", value("9223372036854775807"), "1 9223372036854775807");
        Check.same("the lowest", value("-9223372036854775808"), "1 -9223372036854775808");
        Check.same("above an int", value("4294967296"), "1 4294967296");
    }

    private static void valueOfTexts() {
        Check.same("no byte", value("=\"\""), "2 0");
        Check.same("1 byte", value("x"), "2 1");
        Check.same("64 bytes", value("x".repeat(64)), "2 64");
        Check.same("64 bytes by &", value("=\"" + "x".repeat(60) + "\"&1234"), "2 64");
    }

    private static void valueOfTruths() {
        Check.same("TRUE", value("=TRUE"), "3 1");
        Check.same("FALSE", value("=FALSE"), "3 0");
    }

    private static void valueOfErrors() {
        Check.same("SYNTAX", value("=1+"), "4 1");
        Check.same("ref", value("=INDEX(B1:B1,2,1)"), "4 2");
        Check.same("name", value("=NOSUCH()"), "4 3");
        Check.same("value", value("=\"x\"+1"), "4 4");
        Check.same("div", value("=1/0"), "4 5");
        Check.same("num", value("=2^63"), "4 6");
        Check.same("none", value("=NA()"), "4 7");
        Check.same("cycle", value("=A1"), "4 8");
    }

    private static void letterPlaces() {
        GridLedger ledger = new GridLedger();
        for (int column : BAD_COLUMNS) {
            Check.same("COLUMN " + column, Sheet.of(() -> ledger.letter(column, 0, 0)), BAD);
        }
        for (int row : BAD_ROWS) {
            Check.same("ROW " + row, Sheet.of(() -> ledger.letter(0, row, 0)), BAD);
        }
        Check.same("Z200", with("Z200", "x").ledger.letter(25, 199, 0), (int) 'x');
    }

    private static void letterEnds() {
        GridLedger shortest = with("A1", "~").ledger;
        Check.same("the only one", shortest.letter(0, 0, 0), 126);
        GridLedger longest = with("A1", " " + "x".repeat(62) + "~").ledger;
        Check.same("the first", longest.letter(0, 0, 0), 32);
        Check.same("the last", longest.letter(0, 0, 63), 126);
    }

    private static void letterNotThere(String content, int length) {
        Sheet sheet = with("A1", content);
        for (int i : new int[] {-1, length, length + 1, 64, 65, Integer.MIN_VALUE, Integer.MAX_VALUE}) {
            Check.same("letter " + i + " of " + content, Sheet.of(() -> sheet.ledger.letter(0, 0, i)), NOT_THERE);
        }
    }

    private static void letterNotThere() {
        letterNotThere("x", 1);
        letterNotThere("abc", 3);
        letterNotThere("x".repeat(64), 64);
        Sheet sheet = with("A1", "longer");
        sheet.put("A1", "ab");
        Check.same("what was there before", Sheet.of(() -> sheet.ledger.letter(0, 0, 2)), NOT_THERE);
    }

    private static void letterOfNoByte() {
        letterNotThere("=\"\"", 0);
        letterNotThere("=LEFT(\"abc\",0)", 0);
    }

    private static void letterOfNoText() {
        letterNotThere("", 0);
        letterNotThere("12345", 0);
        letterNotThere("=TRUE", 0);
        letterNotThere("=1/0", 0);
    }

    private static void contentPlaces() {
        GridLedger ledger = new GridLedger();
        for (int what = 0; what < 3; what++) {
            int asked = what;
            for (int column : BAD_COLUMNS) {
                Check.same("COLUMN " + column, Sheet.of(() -> ledger.content(column, 0, asked)), BAD);
            }
            for (int row : BAD_ROWS) {
                Check.same("ROW " + row, Sheet.of(() -> ledger.content(0, row, asked)), BAD);
            }
        }
        Check.same("Z200", with("Z200", "x").ledger.content(25, 199, 0), 2);
    }

    private static void contentWhats() {
        for (int what : new int[] {-1, 3, 4, Integer.MIN_VALUE, Integer.MAX_VALUE}) {
            Check.same("of nothing " + what, Sheet.of(() -> new GridLedger().content(0, 0, what)), BAD);
            Check.same("of a FORMULA " + what, Sheet.of(() -> with("A1", "=B1").ledger.content(0, 0, what)), BAD);
        }
    }

    /** What CONTENT A1 has, by all three numbers. */
    private static String content(String content) {
        GridLedger ledger = with("A1", content).ledger;
        return ledger.content(0, 0, 0) + " " + ledger.content(0, 0, 1) + " " + ledger.content(0, 0, 2);
    }

    private static void contentSorts() {
        Check.same("nothing", content(""), "0 0 0");
        Check.same("NUMBER", content("5"), "1 0 0");
        Check.same("TEXT", content("five"), "2 0 0");
        Check.same("FORMULA", content("=5"), "3 0 0");
        Check.same("FORMULA that is none", content("=5+"), "3 0 0");
        Check.same("FORMULA of a TEXT", content("=\"five\""), "3 0 0");
    }

    private static void contentRefs() {
        Check.same("one", content("=B1"), "3 1 0");
        Check.same("the same twice", content("=B1+B1"), "3 2 0");
        Check.same("a RANGE's are two", content("=SUM(B1:B1)"), "3 2 0");
        Check.same("a REF as RANGE is one", content("=SUM(B1)"), "3 1 0");
        Check.same("wherever they stand", content("=IF(TRUE,1,B1)+NOSUCH(B1,B1:B2)+SUM(B1,B1)"), "3 6 0");
        Check.same("the most", content("=B1" + "+B1".repeat(49)), "3 50 0");
        Check.same("one more than 100 TOKENS have", content("=B1" + "+B1".repeat(50)), "3 0 0");
        Check.same("not in a STRING", content("=\"B1\""), "3 0 0");
    }

    private static void contentGone() {
        Sheet sheet = with("A1", "=B2+SUM(B2:C2)+SUM(B2:B3)+SUM(B2)+B3");
        sheet.erase(false, 1, 1);
        Check.same("two REFS and a RANGE", sheet.ledger.content(0, 0, 2), 4);
        Check.same("of as many as before", sheet.ledger.content(0, 0, 1), 7);
        sheet.erase(false, 1, 1);
        Check.same("all", sheet.ledger.content(0, 0, 2) + " of " + sheet.ledger.content(0, 0, 1), "7 of 7");
    }

    private static void contentElse() {
        Check.same("how many of nothing", new GridLedger().content(25, 199, 1), 0);
        Check.same("GONE of nothing", new GridLedger().content(25, 199, 2), 0);
        Check.same("of a TEXT like a FORMULA", content("B1"), "2 0 0");
        Check.same("of a FORMULA that is none", content("=B1+C1+"), "3 0 0");
    }

    private static void referencePlaces() {
        GridLedger ledger = new GridLedger();
        for (int column : BAD_COLUMNS) {
            Check.same("COLUMN " + column, Sheet.of(() -> ledger.reference(column, 0, 0)), BAD);
        }
        for (int row : BAD_ROWS) {
            Check.same("ROW " + row, Sheet.of(() -> ledger.reference(0, row, 0)), BAD);
        }
        Check.same("Z200", with("Z200", "=B1").ledger.reference(25, 199, 0), 1);
    }

    private static void referenceEnds() {
        GridLedger ledger = with("C3", "=A1+Z1+A200+Z200+SUM(A1:Z200)").ledger;
        int[] due = {0, 25, 26 * 199, 25 + 26 * 199, 0, 25 + 26 * 199};
        for (int i = 0; i < due.length; i++) {
            Check.same("reference " + i, ledger.reference(2, 2, i), due[i]);
        }
    }

    private static void referenceOrder() {
        Sheet sheet = with("A1", "=SUM(D4:C3)+IF($B$2,E5,SUM(F6))*NOSUCH(G7:H8)");
        Check.same("as they stand", sheet.refs("A1"), "D4 C3 B2 E5 F6 G7 H8");
    }

    private static void referenceGone() {
        Sheet sheet = with("A1", "=B2+B3+SUM(B2:C2)");
        sheet.erase(false, 1, 1);
        GridLedger ledger = sheet.ledger;
        Check.same("a REF", ledger.reference(0, 0, 0), -1);
        Check.same("one that is left", ledger.reference(0, 0, 1), 27);
        Check.same("a corner", ledger.reference(0, 0, 2), -1);
        Check.same("the other corner", ledger.reference(0, 0, 3), -1);
        Check.same("none behind", Sheet.of(() -> ledger.reference(0, 0, 4)), NOT_THERE);
    }

    private static void referenceNotThere() {
        Sheet sheet = with("A1", "=B1+SUM(B1:B2)");
        sheet.put("B1", "=C1+C2+C3+C4+C5");
        for (int i : new int[] {-1, 3, 4, 50, Integer.MIN_VALUE, Integer.MAX_VALUE}) {
            Check.same("reference " + i, Sheet.of(() -> sheet.ledger.reference(0, 0, i)), NOT_THERE);
        }
        Sheet most = with("A1", "=B1" + "+B1".repeat(48) + "+C1");
        Check.same("the last of 50", most.ledger.reference(0, 0, 49), 2);
        Check.same("none behind", Sheet.of(() -> most.ledger.reference(0, 0, 50)), NOT_THERE);
    }

    private static void referenceOfNone() {
        for (String content : new String[] {"", "5", "B1", "=5", "=\"B1\"", "=B1+"}) {
            GridLedger ledger = with("A1", content).ledger;
            Check.same("of " + content, Sheet.of(() -> ledger.reference(0, 0, 0)), NOT_THERE);
            Check.same("below 0 of " + content, Sheet.of(() -> ledger.reference(0, 0, -1)), NOT_THERE);
        }
    }

    private static void questionsChangeNothing() {
        Sheet sheet = with("A1", "=B1");
        sheet.put("B1", "abc");
        sheet.undo();
        sheet.type("xyz");
        String before = sheet.picture("A1", "B1");
        Sheet.of(() -> sheet.ledger.value(26, 0, 0));
        Sheet.of(() -> sheet.ledger.value(0, 0, 2));
        Sheet.of(() -> sheet.ledger.letter(0, 0, 0));
        Sheet.of(() -> sheet.ledger.content(0, 0, 3));
        Sheet.of(() -> sheet.ledger.reference(0, 0, 9));
        Sheet.of(() -> sheet.ledger.changed(9));
        Sheet.of(() -> sheet.ledger.count(9));
        Check.same("all as before", sheet.picture("A1", "B1"), before);
        Check.same("redo is still there", sheet.redo(), "2");
    }
}
