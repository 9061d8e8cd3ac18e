/** The boundary cases of promise 6, a test for each; each for ROWS and for COLUMNS. */
public final class EdgesOfInsertTest {
    private static final String BAD = "IllegalArgumentException";
    private static final String REFUSED = "IllegalStateException";

    public static void main(String[] args) {
        Check.sentence("n (1 .. 50): 1", EdgesOfInsertTest::one);
        Check.sentence("n (1 .. 50): 50", EdgesOfInsertTest::fifty);
        Check.sentence("n (1 .. 50): 0, below and 51 are bad", EdgesOfInsertTest::nOutOfRange);
        Check.sentence("number i, which is one of them: both ends", EdgesOfInsertTest::iAtBothEnds);
        Check.sentence("number i, which is one of them: beyond", EdgesOfInsertTest::iOutOfRange);
        Check.sentence("a bad insert changes nothing", EdgesOfInsertTest::badChangesNothing);
        Check.sentence("ROWS that are empty come before number i", EdgesOfInsertTest::emptyOnesCome);
        Check.sentence("if CONTENTS would leave the SHEET: REFUSED: ROWS", EdgesOfInsertTest::rowsWouldLeave);
        Check.sentence("if CONTENTS would leave the SHEET: REFUSED: COLUMNS", EdgesOfInsertTest::columnsWouldLeave);
        Check.sentence("a refused insert changes nothing", EdgesOfInsertTest::refusedChangesNothing);
        Check.sentence("CONTENTS before number i do not leave", EdgesOfInsertTest::contentsBefore);
        Check.sentence("REFS follow their CELLS", EdgesOfInsertTest::refsFollow);
        Check.sentence("REFS follow with $, too", EdgesOfInsertTest::dollarsFollow);
        Check.sentence("to CELLS that left: GONE: ROWS", EdgesOfInsertTest::refsToRowsThatLeft);
        Check.sentence("to CELLS that left: GONE: COLUMNS", EdgesOfInsertTest::refsToColumnsThatLeft);
        Check.sentence("RANGES have all CELLS between their corners", EdgesOfInsertTest::rangesGrow);
        Check.sentence("a corner that leaves is the last ROW", EdgesOfInsertTest::cornerLeavesRows);
        Check.sentence("a corner that leaves is the last COLUMN", EdgesOfInsertTest::cornerLeavesColumns);
        Check.sentence("GONE without any: all of its CELLS left", EdgesOfInsertTest::allCellsLeft);
        Check.sentence("GONE stays GONE", EdgesOfInsertTest::goneStaysGone);
        Check.sentence("RANGES that grow above 20000 CELLS: REFUSED", EdgesOfInsertTest::rangeLimit);
        Check.sentence("Answers how many are CHANGED", EdgesOfInsertTest::changed);
        Check.finish();
    }

    private static Sheet with(String... cellsAndContents) {
        Sheet sheet = new Sheet();
        for (int i = 0; i < cellsAndContents.length; i += 2) {
            sheet.put(cellsAndContents[i], cellsAndContents[i + 1]);
        }
        return sheet;
    }

    /** The REFS of a FORMULA in A1, which stays there, behind an insert. */
    private static String refs(String formula, boolean columns, int i, int n) {
        Sheet sheet = with("A1", formula);
        String answer = sheet.insert(columns, i, n);
        return Character.isLetter(answer.charAt(0)) ? answer : sheet.refs("A1");
    }

    private static void one() {
        Sheet rows = with("B2", "5");
        Check.same("a ROW", rows.insert(false, 1, 1), "2");
        Check.same("B3", rows.show("B2") + rows.show("B3"), "empty5");
        Sheet columns = with("B2", "5");
        Check.same("a COLUMN", columns.insert(true, 1, 1), "2");
        Check.same("C2", columns.show("B2") + columns.show("C2"), "empty5");
    }

    private static void fifty() {
        Sheet rows = with("B2", "5");
        Check.same("50 ROWS", rows.insert(false, 0, 50), "2");
        Check.same("B52", rows.show("B52"), "5");
        Sheet columns = with("B2", "5");
        Check.same("24 COLUMNS", columns.insert(true, 1, 24), "2");
        Check.same("Z2", columns.show("Z2"), "5");
        Check.same("as many COLUMNS as there are", with("B2", "5").insert(true, 2, 26), "0");
        Check.same("50 COLUMNS", with("B2", "5").insert(true, 2, 50), "0");
        Check.same("50 COLUMNS of an empty SHEET", new Sheet().insert(true, 0, 50), "0");
    }

    private static void nOutOfRange() {
        for (int n : new int[] {0, -1, 51, 200, Integer.MIN_VALUE, Integer.MAX_VALUE}) {
            Check.same(n + " ROWS", new Sheet().insert(false, 0, n), BAD);
            Check.same(n + " COLUMNS", new Sheet().insert(true, 0, n), BAD);
        }
    }

    private static void iAtBothEnds() {
        Sheet rows = with("A1", "5", "A199", "6");
        Check.same("ROW 200", rows.insert(false, 199, 1), "0");
        Check.same("ROW 1", rows.insert(false, 0, 1), "4");
        Check.same("A2", rows.show("A2"), "5");
        Sheet columns = with("A1", "5", "Y1", "6");
        Check.same("COLUMN Z", columns.insert(true, 25, 1), "0");
        Check.same("COLUMN A", columns.insert(true, 0, 1), "4");
        Check.same("B1", columns.show("B1"), "5");
    }

    private static void iOutOfRange() {
        for (int i : new int[] {-1, 200, Integer.MIN_VALUE, Integer.MAX_VALUE}) {
            Check.same("ROW " + i, new Sheet().insert(false, i, 1), BAD);
        }
        for (int i : new int[] {-1, 26, 199, Integer.MIN_VALUE, Integer.MAX_VALUE}) {
            Check.same("COLUMN " + i, new Sheet().insert(true, i, 1), BAD);
        }
        Check.same("ROW 26 is one of them", new Sheet().insert(false, 26, 1), "0");
    }

    private static void badChangesNothing() {
        Sheet sheet = with("A1", "=B2", "B2", "5", "C3", "6");
        sheet.undo();
        sheet.type("abc");
        String before = sheet.picture("A1", "B2", "B3", "C2", "C3");
        Check.same("n", sheet.insert(false, 0, 0), BAD);
        Check.same("n", sheet.insert(true, 0, 51), BAD);
        Check.same("i", sheet.insert(true, 26, 1), BAD);
        Check.same("all as before", sheet.picture("A1", "B2", "B3", "C2", "C3"), before);
        Check.same("redo is still there", sheet.redo(), "1");
    }

    private static void emptyOnesCome() {
        Sheet rows = with("A1", "1", "A2", "2", "A3", "3");
        rows.insert(false, 1, 2);
        Check.same("ROWS", rows.show("A1") + rows.show("A2") + rows.show("A3") + rows.show("A4") + rows.show("A5"),
                "1emptyempty23");
        Check.same("no CONTENT more", rows.ledger.count(4), 3);
        Sheet columns = with("A1", "1", "B1", "2", "C1", "3");
        columns.insert(true, 2, 2);
        Check.same("COLUMNS", columns.show("B1") + columns.show("C1") + columns.show("D1") + columns.show("E1"),
                "2emptyempty3");
    }

    private static void rowsWouldLeave() {
        Check.same("the last ROW by 1", with("A200", "5").insert(false, 0, 1), REFUSED);
        Check.same("the last ROW by 1 before it", with("A200", "5").insert(false, 199, 1), REFUSED);
        Check.same("just to the last ROW", with("A150", "5").insert(false, 0, 50), "2");
        Check.same("one further", with("A151", "5").insert(false, 0, 50), REFUSED);
        Check.same("a TEXT", with("Z151", "x").insert(false, 150, 50), REFUSED);
        Check.same("a FORMULA", with("Z200", "=1+").insert(false, 150, 1), REFUSED);
        Check.same("one of several", with("A1", "1", "B200", "2").insert(false, 0, 1), REFUSED);
        Check.same("what is empty again", with("A200", "5", "A200", "").insert(false, 0, 1), "0");
    }

    private static void columnsWouldLeave() {
        Check.same("the last COLUMN by 1", with("Z1", "5").insert(true, 0, 1), REFUSED);
        Check.same("the last COLUMN by 1 before it", with("Z200", "5").insert(true, 25, 1), REFUSED);
        Check.same("just to the last COLUMN", with("C1", "5").insert(true, 2, 23), "2");
        Check.same("one further", with("C1", "5").insert(true, 2, 24), REFUSED);
        Check.same("not to the next ROW", with("C1", "5").insert(true, 0, 26), REFUSED);
        Check.same("by 50", with("A1", "5").insert(true, 0, 50), REFUSED);
    }

    private static void refusedChangesNothing() {
        Sheet sheet = with("A1", "=B2+Z200", "B2", "5", "Z200", "6", "C3", "7");
        sheet.undo();
        sheet.type("abc");
        String before = sheet.picture("A1", "B2", "B3", "C2", "C3", "Z200");
        Check.same("ROWS", sheet.insert(false, 1, 1), REFUSED);
        Check.same("COLUMNS", sheet.insert(true, 1, 1), REFUSED);
        Check.same("all as before", sheet.picture("A1", "B2", "B3", "C2", "C3", "Z200"), before);
        Check.same("redo is still there", sheet.redo(), "1");
        Check.same("undo, too", sheet.undo() + sheet.undo() + sheet.undo() + sheet.undo() + sheet.undo(), "1221" + REFUSED);
    }

    private static void contentsBefore() {
        Check.same("ROWS", with("A199", "5").insert(false, 199, 50), "0");
        Check.same("COLUMNS", with("Y1", "5").insert(true, 25, 50), "0");
    }

    private static void refsFollow() {
        Check.same("before number i", refs("=B4", false, 4, 3), "B4");
        Check.same("number i", refs("=B5", false, 4, 3), "B8");
        Check.same("just to the last ROW", refs("=B197", false, 4, 3), "B200");
        Check.same("before COLUMN i", refs("=D9", true, 4, 3), "D9");
        Check.same("COLUMN i", refs("=E9", true, 4, 3), "H9");
        Check.same("just to the last COLUMN", refs("=W9", true, 4, 3), "Z9");
        Sheet sheet = with("A1", "=A1+A2");
        sheet.insert(false, 0, 1);
        Check.same("its own CELL", sheet.refs("A2"), "A2 A3");
    }

    private static void dollarsFollow() {
        Check.same("ROWS", refs("=B$5+$B$5+$B5+SUM($B$5:$C$6)", false, 4, 1), "B6 B6 B6 B6 C7");
        Check.same("COLUMNS", refs("=B$5+$B$5+$B5+SUM($B$5:$C$6)", true, 1, 1), "C5 C5 C5 C5 D6");
    }

    private static void refsToRowsThatLeft() {
        Check.same("by 1", refs("=B200+$B$200+B199", false, 1, 1), "gone gone B200");
        Check.same("by 50", refs("=B151+B150+B200", false, 1, 50), "gone B200 gone");
        Sheet sheet = with("A1", "=B200");
        Check.same("another VALUE", sheet.insert(false, 199, 1), "1");
        Check.same("A1", sheet.show("A1") + sheet.ledger.content(0, 0, 2) + sheet.ledger.reference(0, 0, 0), "#ref1-1");
    }

    private static void refsToColumnsThatLeft() {
        Check.same("by 1", refs("=Z9+$Z$9+Y9", true, 1, 1), "gone gone Z9");
        Check.same("by 50", refs("=B9+Z9+A9", true, 1, 50), "gone gone A9");
        Sheet sheet = with("A1", "=Z5");
        Check.same("another VALUE", sheet.insert(true, 25, 1), "1");
        Check.same("A1", sheet.show("A1") + sheet.ledger.content(0, 0, 2) + sheet.ledger.reference(0, 0, 0), "#ref1-1");
    }

    private static void rangesGrow() {
        Check.same("within", refs("=SUM(B5:C9)", false, 6, 2), "B5 C11");
        Check.same("before its first ROW", refs("=SUM(B5:C9)", false, 4, 2), "B7 C11");
        Check.same("before its last ROW", refs("=SUM(B5:C9)", false, 8, 2), "B5 C11");
        Check.same("behind its last ROW", refs("=SUM(B5:C9)", false, 9, 2), "B5 C9");
        Check.same("before its last COLUMN", refs("=SUM(B5:D9)", true, 3, 2), "B5 F9");
        Check.same("behind its last COLUMN", refs("=SUM(B5:D9)", true, 4, 2), "B5 D9");
        Check.same("corners in any order", refs("=SUM(C9:B5)+SUM(B9:C5)", false, 6, 2), "C11 B5 B11 C5");
        Sheet sheet = with("A1", "=SUM(B1:B2)", "B1", "3", "B2", "4");
        sheet.insert(false, 1, 1);
        Check.same("what is between them", sheet.refs("A1") + " " + sheet.show("A1"), "B1 B3 7");
        sheet.put("B2", "5");
        Check.same("what comes there", sheet.show("A1"), "12");
    }

    private static void cornerLeavesRows() {
        Check.same("by 1", refs("=SUM(B190:C200)", false, 195, 1), "B190 C200");
        Check.same("both move, one leaves", refs("=SUM(B190:C200)", false, 100, 9), "B199 C200");
        Check.same("the first is the last ROW, too", refs("=SUM(B190:C200)", false, 100, 10), "B200 C200");
        Check.same("the first corner", refs("=SUM(C200:B190)", false, 195, 7), "C200 B190");
        Check.same("each in its COLUMN", refs("=SUM(C190:B200)", false, 195, 7), "C190 B200");
        Check.same("by 50", refs("=SUM(B100:C200)", false, 120, 50), "B100 C200");
        Check.same("one that stays is where it follows to", refs("=SUM(B190:C195)", false, 192, 5), "B190 C200");
        Check.same("one beyond", refs("=SUM(B190:C195)", false, 192, 6), "B190 C200");
    }

    private static void cornerLeavesColumns() {
        Check.same("by 1", refs("=SUM(W3:Z9)", true, 24, 1), "W3 Z9");
        Check.same("both move, one leaves", refs("=SUM(W3:Z9)", true, 10, 2), "Y3 Z9");
        Check.same("the first is the last COLUMN, too", refs("=SUM(W3:Z9)", true, 10, 3), "Z3 Z9");
        Check.same("the first corner", refs("=SUM(Z9:W3)", true, 24, 7), "Z9 W3");
        Check.same("each in its ROW", refs("=SUM(Z3:W9)", true, 24, 7), "Z3 W9");
        Check.same("by 50", refs("=SUM(W3:Z9)", true, 23, 50), "W3 Z9");
    }

    private static void allCellsLeft() {
        Check.same("ROWS", refs("=SUM(B190:C200)", false, 100, 11), "gone gone");
        Check.same("a RANGE of one ROW", refs("=SUM(B200:Z200)", false, 199, 1), "gone gone");
        Check.same("COLUMNS", refs("=SUM(W3:Z9)", true, 10, 4), "gone gone");
        Check.same("a RANGE of one COLUMN", refs("=SUM(Z1:Z200)", true, 25, 1), "gone gone");
        Sheet sheet = with("A1", "=ROWS(B200:Z200)");
        sheet.insert(false, 199, 1);
        Check.same("its VALUE", sheet.show("A1") + sheet.ledger.content(0, 0, 2), "#ref2");
    }

    private static void goneStaysGone() {
        Sheet sheet = with("A1", "=B200+SUM(B200:C200)");
        sheet.insert(false, 199, 1);
        sheet.insert(false, 5, 5);
        sheet.insert(true, 5, 5);
        Check.same("behind inserts", sheet.refs("A1"), "gone gone gone");
        sheet.erase(false, 5, 5);
        Check.same("behind an erase", sheet.refs("A1"), "gone gone gone");
        sheet.undo();
        sheet.undo();
        sheet.undo();
        sheet.undo();
        Check.same("but not behind undo", sheet.refs("A1"), "B200 B200 C200");
    }

    private static void rangeLimit() {
        Sheet sheet = with("A1", "=ROWS($B$1:$Z$160)");
        sheet.fill("A1", "A1", "A5");
        String before = sheet.picture("A1", "A5");
        Check.same("20000 and 125 more", sheet.insert(false, 100, 1), REFUSED);
        Check.same("all as before", sheet.picture("A1", "A5"), before);
        sheet.put("A1", "=ROWS($B$1:$Y$160)");
        Check.same("19840 and 124 more", sheet.insert(false, 100, 1), "5");
        Check.same("19964 and 124 more", sheet.insert(false, 100, 1), REFUSED);
        Check.same("it did not grow", sheet.refs("A5"), "B1 Z161");
        sheet.put("B1", "=ROWS($C$1:$C$36)");
        Check.same("20000", sheet.ledger.count(4), 6);
        Check.same("one more in one RANGE", sheet.insert(false, 30, 1), REFUSED);
        Check.same("behind all RANGES", sheet.insert(false, 161, 1), "0");
    }

    private static void changed() {
        Sheet sheet = with("A1", "7", "A2", "7", "A3", "8", "B9", "=A3");
        Check.same("the same VALUE comes to A2", sheet.insert(false, 0, 1), "5");
        Check.same("which", sheet.changes(), "A1 A3 A4 B9 B10");
        Check.same("a ROW behind all", sheet.insert(false, 150, 1), "0");
        Check.same("is an EDIT", sheet.ledger.count(2), 6);
    }
}
