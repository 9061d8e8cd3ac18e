/** The boundary cases of promise 7, a test for each; each for ROWS and for COLUMNS. */
public final class EdgesOfEraseTest {
    private static final String BAD = "IllegalArgumentException";

    public static void main(String[] args) {
        Check.sentence("n (1 .. 50): 1", EdgesOfEraseTest::one);
        Check.sentence("n (1 .. 50): 50", EdgesOfEraseTest::fifty);
        Check.sentence("n (1 .. 50): 0, below and 51 are bad", EdgesOfEraseTest::nOutOfRange);
        Check.sentence("from number i on: both ends", EdgesOfEraseTest::iAtBothEnds);
        Check.sentence("from number i on: beyond", EdgesOfEraseTest::iOutOfRange);
        Check.sentence("as many must be there, else bad: ROWS", EdgesOfEraseTest::asManyRows);
        Check.sentence("as many must be there, else bad: COLUMNS", EdgesOfEraseTest::asManyColumns);
        Check.sentence("a bad erase changes nothing", EdgesOfEraseTest::badChangesNothing);
        Check.sentence("those behind come up", EdgesOfEraseTest::comeUp);
        Check.sentence("empty ones at the end", EdgesOfEraseTest::emptyAtTheEnd);
        Check.sentence("REFS follow their CELLS", EdgesOfEraseTest::refsFollow);
        Check.sentence("REFS to CELLS that went: GONE", EdgesOfEraseTest::refsToThoseThatWent);
        Check.sentence("REFS with $, too", EdgesOfEraseTest::dollars);
        Check.sentence("RANGES have all CELLS that are left", EdgesOfEraseTest::rangesShrink);
        Check.sentence("a corner that goes moves inwards: the first", EdgesOfEraseTest::firstCornerGoes);
        Check.sentence("a corner that goes moves inwards: the last", EdgesOfEraseTest::lastCornerGoes);
        Check.sentence("a corner that goes moves inwards: corners in any order", EdgesOfEraseTest::cornersInAnyOrder);
        Check.sentence("GONE without any: both corners go", EdgesOfEraseTest::bothCornersGo);
        Check.sentence("both corners go, one after the other", EdgesOfEraseTest::oneAfterTheOther);
        Check.sentence("a RANGE that is GONE: its VALUE is ERROR ref", EdgesOfEraseTest::valueOfGone);
        Check.sentence("GONE comes back by undo alone", EdgesOfEraseTest::goneComesBackByUndo);
        Check.sentence("Answers how many are CHANGED", EdgesOfEraseTest::changed);
        Check.finish();
    }

    private static Sheet with(String... cellsAndContents) {
        Sheet sheet = new Sheet();
        for (int i = 0; i < cellsAndContents.length; i += 2) {
            sheet.put(cellsAndContents[i], cellsAndContents[i + 1]);
        }
        return sheet;
    }

    /** The REFS of a FORMULA in A1, which stays there, behind an erase. */
    private static String refs(String formula, boolean columns, int i, int n) {
        Sheet sheet = with("A1", formula);
        String answer = sheet.erase(columns, i, n);
        return Character.isLetter(answer.charAt(0)) ? answer : sheet.refs("A1");
    }

    private static void one() {
        Sheet rows = with("B2", "5", "B3", "6");
        Check.same("a ROW", rows.erase(false, 1, 1), "2");
        Check.same("B2", rows.show("B2") + rows.show("B3"), "6empty");
        Sheet columns = with("B2", "5", "C2", "6");
        Check.same("a COLUMN", columns.erase(true, 1, 1), "2");
        Check.same("B2", columns.show("B2") + columns.show("C2"), "6empty");
    }

    private static void fifty() {
        Sheet sheet = with("A1", "1", "A2", "2", "A51", "51", "A52", "52");
        Check.same("50 ROWS", sheet.erase(false, 1, 50), "3");
        Check.same("A2", sheet.show("A1") + sheet.show("A2") + sheet.show("A3"), "152empty");
        Check.same("how many are left", sheet.ledger.count(4), 2);
        Check.same("the last 50", with("A151", "5").erase(false, 150, 50), "1");
        Check.same("the first 50", with("A50", "5").erase(false, 0, 50), "1");
    }

    private static void nOutOfRange() {
        for (int n : new int[] {0, -1, 51, 200, Integer.MIN_VALUE, Integer.MAX_VALUE}) {
            Check.same(n + " ROWS", new Sheet().erase(false, 0, n), BAD);
            Check.same(n + " COLUMNS", new Sheet().erase(true, 0, n), BAD);
        }
    }

    private static void iAtBothEnds() {
        Check.same("ROW 1", with("A1", "5").erase(false, 0, 1), "1");
        Check.same("ROW 200", with("A200", "5").erase(false, 199, 1), "1");
        Check.same("COLUMN A", with("A1", "5").erase(true, 0, 1), "1");
        Check.same("COLUMN Z", with("Z1", "5").erase(true, 25, 1), "1");
    }

    private static void iOutOfRange() {
        for (int i : new int[] {-1, 200, Integer.MIN_VALUE, Integer.MAX_VALUE}) {
            Check.same("ROW " + i, new Sheet().erase(false, i, 1), BAD);
        }
        for (int i : new int[] {-1, 26, 199, Integer.MIN_VALUE, Integer.MAX_VALUE}) {
            Check.same("COLUMN " + i, new Sheet().erase(true, i, 1), BAD);
        }
        Check.same("ROW 26 is one of them", new Sheet().erase(false, 26, 1), "0");
    }

    private static void asManyRows() {
        Check.same("the last 50", new Sheet().erase(false, 150, 50), "0");
        Check.same("one less", new Sheet().erase(false, 151, 50), BAD);
        Check.same("49 of 49", new Sheet().erase(false, 151, 49), "0");
        Check.same("two of one", new Sheet().erase(false, 199, 2), BAD);
    }

    private static void asManyColumns() {
        Check.same("all", new Sheet().erase(true, 0, 26), "0");
        Check.same("one more", new Sheet().erase(true, 0, 27), BAD);
        Check.same("50 are never there", new Sheet().erase(true, 0, 50), BAD);
        Check.same("the last five", new Sheet().erase(true, 21, 5), "0");
        Check.same("six of five", new Sheet().erase(true, 21, 6), BAD);
        Check.same("two of one", new Sheet().erase(true, 25, 2), BAD);
    }

    private static void badChangesNothing() {
        Sheet sheet = with("A1", "=Z200", "Z200", "5", "C3", "6");
        sheet.undo();
        sheet.type("abc");
        String before = sheet.picture("A1", "C3", "Z199", "Z200", "Y200");
        Check.same("n", sheet.erase(false, 0, 0), BAD);
        Check.same("n", sheet.erase(false, 0, 51), BAD);
        Check.same("as many", sheet.erase(false, 199, 2), BAD);
        Check.same("as many", sheet.erase(true, 25, 2), BAD);
        Check.same("i", sheet.erase(true, 26, 1), BAD);
        Check.same("all as before", sheet.picture("A1", "C3", "Z199", "Z200", "Y200"), before);
        Check.same("redo is still there", sheet.redo(), "1");
    }

    private static void comeUp() {
        Sheet rows = with("A1", "1", "A2", "2", "A3", "3", "A4", "4", "A5", "5");
        rows.erase(false, 1, 2);
        Check.same("ROWS", rows.show("A1") + rows.show("A2") + rows.show("A3") + rows.show("A4"), "145empty");
        Sheet columns = with("A1", "1", "B1", "2", "C1", "3", "D1", "4", "E1", "5");
        columns.erase(true, 1, 2);
        Check.same("COLUMNS", columns.show("A1") + columns.show("B1") + columns.show("C1") + columns.show("D1"), "145empty");
    }

    private static void emptyAtTheEnd() {
        Sheet sheet = with("Z200", "5");
        Check.same("a ROW", sheet.erase(false, 0, 1), "2");
        Check.same("which", sheet.changes(), "Z199 Z200");
        Check.same("Z200", sheet.show("Z199") + sheet.show("Z200"), "5empty");
        Check.same("a COLUMN", sheet.erase(true, 0, 1), "2");
        Check.same("Z199", sheet.show("Y199") + sheet.show("Z199"), "5empty");
    }

    private static void refsFollow() {
        Check.same("before", refs("=B4", false, 4, 3), "B4");
        Check.same("the first behind", refs("=B8", false, 4, 3), "B5");
        Check.same("the last ROW", refs("=B200", false, 4, 3), "B197");
        Check.same("a COLUMN before", refs("=D9", true, 4, 3), "D9");
        Check.same("the first COLUMN behind", refs("=H9", true, 4, 3), "E9");
        Check.same("the last COLUMN", refs("=Z9", true, 4, 3), "W9");
        Sheet sheet = with("A3", "=A3+A4");
        sheet.erase(false, 0, 1);
        Check.same("its own CELL", sheet.refs("A2"), "A2 A3");
    }

    private static void refsToThoseThatWent() {
        Check.same("the first and the last ROW of three", refs("=B5+B6+B7", false, 4, 3), "gone gone gone");
        Check.same("beside them", refs("=B4+B5+B8", false, 4, 3), "B4 gone B5");
        Check.same("the first and the last COLUMN of three", refs("=E9+F9+G9", true, 4, 3), "gone gone gone");
        Check.same("beside them", refs("=D9+E9+H9", true, 4, 3), "D9 gone E9");
        Check.same("the last ROW", refs("=B200", false, 199, 1), "gone");
        Sheet sheet = with("A1", "=B5", "B5", "7", "B6", "8");
        Check.same("another VALUE", sheet.erase(false, 4, 1), "3");
        Check.same("not that which came there", sheet.show("A1"), "#ref");
        Check.same("GONE", sheet.ledger.content(0, 0, 2) + " " + sheet.ledger.reference(0, 0, 0), "1 -1");
    }

    private static void dollars() {
        Check.same("ROWS", refs("=B$5+$B$8+$B8+SUM($B$8:$C$9)", false, 4, 3), "gone B5 B5 B5 C6");
        Check.same("COLUMNS", refs("=$E5+$H$8+H$8+SUM($H$8:$I$9)", true, 4, 3), "gone E8 E8 E8 F9");
    }

    private static void rangesShrink() {
        Check.same("ROWS within", refs("=SUM(B5:C9)", false, 5, 2), "B5 C7");
        Check.same("ROWS before", refs("=SUM(B5:C9)", false, 1, 2), "B3 C7");
        Check.same("ROWS just before", refs("=SUM(B5:C9)", false, 2, 2), "B3 C7");
        Check.same("ROWS just behind", refs("=SUM(B5:C9)", false, 9, 2), "B5 C9");
        Check.same("all between the corners", refs("=SUM(B5:C9)", false, 5, 3), "B5 C6");
        Check.same("COLUMNS within", refs("=SUM(C5:G9)", true, 3, 2), "C5 E9");
        Check.same("COLUMNS before", refs("=SUM(C5:G9)", true, 1, 1), "B5 F9");
        Check.same("COLUMNS just behind", refs("=SUM(C5:G9)", true, 7, 2), "C5 G9");
    }

    private static void firstCornerGoes() {
        Check.same("its ROW", refs("=SUM(B5:C9)", false, 4, 1), "B5 C8");
        Check.same("from before it", refs("=SUM(B5:C9)", false, 2, 4), "B3 C5");
        Check.same("all but the last ROW", refs("=SUM(B5:C9)", false, 4, 4), "B5 C5");
        Check.same("its COLUMN", refs("=SUM(C5:G9)", true, 2, 1), "C5 F9");
        Check.same("from before it", refs("=SUM(C5:G9)", true, 1, 3), "B5 D9");
        Check.same("all but the last COLUMN", refs("=SUM(C5:G9)", true, 2, 4), "C5 C9");
    }

    private static void lastCornerGoes() {
        Check.same("its ROW", refs("=SUM(B5:C9)", false, 8, 1), "B5 C8");
        Check.same("and behind it", refs("=SUM(B5:C9)", false, 7, 4), "B5 C7");
        Check.same("all but the first ROW", refs("=SUM(B5:C9)", false, 5, 4), "B5 C5");
        Check.same("its COLUMN", refs("=SUM(C5:G9)", true, 6, 1), "C5 F9");
        Check.same("and behind it", refs("=SUM(C5:G9)", true, 5, 4), "C5 E9");
        Check.same("the last ROW of the SHEET", refs("=SUM(B5:C200)", false, 199, 1), "B5 C199");
        Check.same("the last COLUMN of the SHEET", refs("=SUM(C5:Z9)", true, 25, 1), "C5 Y9");
    }

    private static void cornersInAnyOrder() {
        Check.same("the last ROW is first", refs("=SUM(C9:B5)", false, 8, 1), "C8 B5");
        Check.same("the first ROW is last", refs("=SUM(C9:B5)", false, 4, 1), "C8 B5");
        Check.same("each in its COLUMN", refs("=SUM(B9:C5)", false, 3, 3), "B6 C4");
        Check.same("the last COLUMN is first", refs("=SUM(G9:C5)", true, 6, 2), "F9 C5");
        Check.same("each in its ROW", refs("=SUM(G5:C9)", true, 2, 1), "F5 C9");
    }

    private static void bothCornersGo() {
        Check.same("just its ROWS", refs("=SUM(B5:C9)+B5", false, 4, 5), "gone gone gone");
        Check.same("and more before and behind", refs("=SUM(B5:C9)", false, 2, 20), "gone gone");
        Check.same("all but one ROW at its end", refs("=SUM(B5:C9)", false, 3, 5), "B4 C4");
        Check.same("all but one ROW at its beginning", refs("=SUM(B5:C9)", false, 5, 5), "B5 C5");
        Check.same("a RANGE of one ROW", refs("=SUM(B5:G5)", false, 4, 1), "gone gone");
        Check.same("a RANGE of one CELL", refs("=SUM(B5:B5)", false, 4, 1), "gone gone");
        Check.same("just its COLUMNS", refs("=SUM(C5:G9)", true, 2, 5), "gone gone");
        Check.same("a RANGE of one COLUMN", refs("=SUM(C1:C200)", true, 2, 1), "gone gone");
        Check.same("at the end of the SHEET", refs("=SUM(B199:C200)", false, 198, 2), "gone gone");
        Check.same("corners in any order", refs("=SUM(C9:B5)", false, 4, 5), "gone gone");
    }

    private static void oneAfterTheOther() {
        Sheet sheet = with("A1", "=SUM(B5:C7)");
        sheet.erase(false, 4, 1);
        Check.same("the first", sheet.refs("A1"), "B5 C6");
        sheet.erase(false, 5, 1);
        Check.same("the last", sheet.refs("A1"), "B5 C5");
        sheet.erase(false, 4, 1);
        Check.same("what was between", sheet.refs("A1"), "gone gone");
    }

    private static void valueOfGone() {
        Sheet sheet = with("A1", "=ROWS(B5:C7)", "A2", "=IFERROR(SUM(B5:C7),1)");
        sheet.erase(false, 4, 3);
        Check.same("A1", sheet.show("A1"), "#ref");
        Check.same("A2", sheet.show("A2"), "1");
        Check.same("a RANGE's are two", sheet.ledger.content(0, 0, 2), 2);
    }

    private static void goneComesBackByUndo() {
        Sheet sheet = with("A1", "=B5+SUM(B5:C5)");
        sheet.erase(false, 4, 1);
        sheet.insert(false, 4, 1);
        Check.same("not by insert", sheet.refs("A1"), "gone gone gone");
        sheet.undo();
        Check.same("not by its undo", sheet.refs("A1"), "gone gone gone");
        sheet.undo();
        Check.same("by undo of erase", sheet.refs("A1"), "B5 B5 C5");
        sheet.redo();
        Check.same("redo", sheet.refs("A1"), "gone gone gone");
    }

    private static void changed() {
        Sheet sheet = with("A1", "7", "A2", "7", "A3", "8", "B1", "=A3");
        Check.same("the same VALUE comes to A1", sheet.erase(false, 0, 1), "3");
        Check.same("which", sheet.changes(), "B1 A2 A3");
        Sheet empty = with("A1", "7");
        Check.same("a ROW behind all", empty.erase(false, 150, 1), "0");
        Check.same("is an EDIT", empty.ledger.count(2), 2);
    }
}
