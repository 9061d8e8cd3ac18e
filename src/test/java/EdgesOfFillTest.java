/** The boundary cases of promise 5, a test for each. */
public final class EdgesOfFillTest {
    private static final String BAD = "IllegalArgumentException";
    private static final String REFUSED = "IllegalStateException";

    public static void main(String[] args) {
        Check.sentence("c not above d: both the same", EdgesOfFillTest::oneColumn);
        Check.sentence("c not above d; else bad", EdgesOfFillTest::columnsTurned);
        Check.sentence("r not above s: both the same", EdgesOfFillTest::oneRow);
        Check.sentence("r not above s; else bad", EdgesOfFillTest::rowsTurned);
        Check.sentence("a number out of range: bad", EdgesOfFillTest::outOfRange);
        Check.sentence("both ends of each range", EdgesOfFillTest::endsOfRanges);
        Check.sentence("a bad fill changes nothing", EdgesOfFillTest::badChangesNothing);
        Check.sentence("the CONTENT comes to all CELLS of a box", EdgesOfFillTest::allOfTheBox);
        Check.sentence("a CELL with nothing: the box is empty then", EdgesOfFillTest::nothing);
        Check.sentence("a CELL with nothing: the whole SHEET is no CONTENT", EdgesOfFillTest::nothingEverywhere);
        Check.sentence("a box that has the CELL itself in it", EdgesOfFillTest::itselfWithin);
        Check.sentence("a box that is the CELL itself", EdgesOfFillTest::itselfAlone);
        Check.sentence("REFS without $ move by as much as the CELL", EdgesOfFillTest::dollars);
        Check.sentence("beyond the SHEET: the REF is GONE: left of A", EdgesOfFillTest::leftOfTheSheet);
        Check.sentence("beyond the SHEET: the REF is GONE: right of Z", EdgesOfFillTest::rightOfTheSheet);
        Check.sentence("beyond the SHEET: the REF is GONE: above 1", EdgesOfFillTest::aboveTheSheet);
        Check.sentence("beyond the SHEET: the REF is GONE: below 200", EdgesOfFillTest::belowTheSheet);
        Check.sentence("with $ it does not go beyond the SHEET", EdgesOfFillTest::dollarsStay);
        Check.sentence("beyond the SHEET: the RANGE is GONE: one corner", EdgesOfFillTest::oneCornerBeyond);
        Check.sentence("beyond the SHEET: the RANGE is GONE: both corners", EdgesOfFillTest::bothCornersBeyond);
        Check.sentence("its VALUE is ERROR ref", EdgesOfFillTest::valueOfGone);
        Check.sentence("what is GONE stays so where it is filled to", EdgesOfFillTest::goneStaysGone);
        Check.sentence("SYNTAX is filled as it is", EdgesOfFillTest::syntax);
        Check.sentence("at most 400 CELLS with CONTENTS", EdgesOfFillTest::cellLimit);
        Check.sentence("at most 20000 CELLS of RANGES", EdgesOfFillTest::rangeLimit);
        Check.sentence("a refused fill changes nothing", EdgesOfFillTest::refusedChangesNothing);
        Check.finish();
    }

    private static String fill(Sheet sheet, int... n) {
        return Sheet.of(() -> sheet.ledger.fill(n[0], n[1], n[2], n[3], n[4], n[5]));
    }

    private static Sheet with(String cell, String content) {
        Sheet sheet = new Sheet();
        sheet.put(cell, content);
        return sheet;
    }

    private static void oneColumn() {
        Sheet sheet = with("A1", "5");
        Check.same("fill", fill(sheet, 0, 0, 3, 2, 3, 4), "3");
        Check.same("which", sheet.changes(), "D3 D4 D5");
    }

    private static void columnsTurned() {
        Check.same("one above", fill(with("A1", "5"), 0, 0, 4, 2, 3, 4), BAD);
        Check.same("both ends", fill(with("A1", "5"), 0, 0, 25, 2, 0, 4), BAD);
    }

    private static void oneRow() {
        Sheet sheet = with("A1", "5");
        Check.same("fill", fill(sheet, 0, 0, 3, 2, 5, 2), "3");
        Check.same("which", sheet.changes(), "D3 E3 F3");
    }

    private static void rowsTurned() {
        Check.same("one above", fill(with("A1", "5"), 0, 0, 3, 3, 5, 2), BAD);
        Check.same("both ends", fill(with("A1", "5"), 0, 0, 3, 199, 5, 0), BAD);
    }

    private static void outOfRange() {
        int[] behind = {26, 200, 26, 200, 26, 200};
        for (int which = 0; which < 6; which++) {
            for (int number : new int[] {-1, behind[which], Integer.MIN_VALUE, Integer.MAX_VALUE}) {
                int[] numbers = {0, 0, 1, 1, 2, 2};
                numbers[which] = number;
                Check.same("number " + which + " is " + number, fill(with("A1", "5"), numbers), BAD);
            }
        }
    }

    private static void endsOfRanges() {
        Check.same("the first CELL", fill(with("C3", "5"), 2, 2, 0, 0, 0, 0), "1");
        Check.same("the last CELL", fill(with("C3", "5"), 2, 2, 25, 199, 25, 199), "1");
        Check.same("from the last CELL", fill(with("Z200", "5"), 25, 199, 0, 0, 0, 0), "1");
        Check.same("from the first CELL", fill(with("A1", "5"), 0, 0, 25, 0, 25, 0), "1");
        Check.same("a whole ROW", fill(with("A1", "5"), 0, 0, 0, 199, 25, 199), "26");
        Check.same("a whole COLUMN", fill(with("A1", "5"), 0, 0, 25, 0, 25, 199), "200");
    }

    private static void badChangesNothing() {
        Sheet sheet = with("A1", "5");
        sheet.put("B1", "=A1");
        sheet.undo();
        sheet.type("abc");
        String before = sheet.picture("A1", "B1", "C1");
        Check.same("turned", fill(sheet, 0, 0, 2, 0, 1, 0), BAD);
        Check.same("out of range", fill(sheet, 0, 0, 0, 0, 26, 0), BAD);
        Check.same("all as before", sheet.picture("A1", "B1", "C1"), before);
        Check.same("redo is still there", sheet.redo(), "1");
    }

    private static void allOfTheBox() {
        Sheet sheet = with("A1", "word");
        Check.same("fill", sheet.fill("A1", "C2", "E4"), "9");
        Check.same("which", sheet.changes(), "C2 D2 E2 C3 D3 E3 C4 D4 E4");
        Check.same("a corner", sheet.show("C2"), "'word'");
        Check.same("the other corner", sheet.show("E4"), "'word'");
        Check.same("beside it", sheet.show("F4") + sheet.show("B2") + sheet.show("C1") + sheet.show("E5"),
                "emptyemptyemptyempty");
        Check.same("the CELL itself", sheet.show("A1"), "'word'");
    }

    private static void nothing() {
        Sheet sheet = with("A1", "5");
        sheet.fill("A1", "A1", "C3");
        Check.same("from a CELL beside", sheet.fill("D4", "A1", "B2"), "4");
        Check.same("which", sheet.changes(), "A1 B1 A2 B2");
        Check.same("how many are left", sheet.ledger.count(4), 5);
        Check.same("nothing to nothing", sheet.fill("D4", "E5", "F6"), "0");
        Check.same("is an EDIT", sheet.ledger.count(2), 4);
        Check.same("from an empty CELL within", sheet.fill("A1", "A1", "C3"), "5");
        Check.same("none is left", sheet.ledger.count(4), 0);
    }

    private static void nothingEverywhere() {
        Sheet sheet = with("A1", "5");
        sheet.fill("A1", "A1", "B200");
        Check.same("5200 CELLS", sheet.fill("Z200", "A1", "Z200"), "400");
        Check.same("none is left", sheet.ledger.count(4), 0);
    }

    private static void itselfWithin() {
        Sheet sheet = with("C3", "=B2&$A$1");
        Check.same("all but itself", sheet.fill("C3", "B2", "D4"), "8");
        Check.same("which", sheet.changes(), "B2 C2 D2 B3 D3 B4 C4 D4");
        Check.same("itself", sheet.refs("C3"), "B2 A1");
        Check.same("before it", sheet.refs("B2"), "A1 A1");
        Check.same("behind it", sheet.refs("D4"), "C3 A1");
        Check.same("beside it", sheet.refs("D2"), "C1 A1");
        Sheet first = with("A1", "=B2");
        Check.same("it is the first", first.fill("A1", "A1", "B2"), "3");
        Check.same("itself", first.refs("A1"), "B2");
        Check.same("the last", first.refs("B2"), "C3");
        Sheet last = with("C3", "=B2");
        Check.same("it is the last", last.fill("C3", "B2", "C3"), "3");
        Check.same("itself", last.refs("C3"), "B2");
        Check.same("the first", last.refs("B2"), "A1");
    }

    private static void itselfAlone() {
        Sheet sheet = with("C3", "=B2+SUM($A1:D$4)");
        Check.same("fill", sheet.fill("C3", "C3", "C3"), "0");
        Check.same("refs", sheet.refs("C3"), "B2 A1 D4");
        Check.same("is an EDIT", sheet.ledger.count(2), 2);
    }

    private static void dollars() {
        Sheet sheet = with("C3", "=B2+$B2+B$2+$B$2+ROWS(B2:$C$4)+ROWS($B2:C$4)");
        sheet.fill("C3", "D5", "D5");
        Check.same("one COLUMN and two ROWS on", sheet.refs("D5"), "C4 B4 C2 B2 C4 C4 B4 D4");
        sheet.fill("C3", "C2", "C2");
        Check.same("one ROW up", sheet.refs("C2"), "B1 B1 B2 B2 B1 C4 B1 C4");
        sheet.fill("D5", "C3", "C3");
        Check.same("and back", sheet.refs("C3"), "B2 B2 B2 B2 B2 C4 B2 C4");
        sheet.put("C3", "=SUM(B2)+SUM($B2)+SUM(B$2)+SUM($B$2)");
        sheet.fill("C3", "D5", "D5");
        Check.same("a REF as RANGE", sheet.refs("D5"), "C4 B4 C2 B2");
    }

    private static String filled(String from, String content, String to) {
        Sheet sheet = with(from, content);
        sheet.fill(from, to, to);
        return sheet.refs(to) + " / " + sheet.ledger.content(Sheet.column(to), Sheet.row(to), 2);
    }

    private static void leftOfTheSheet() {
        Check.same("just in A", filled("D5", "=B1", "C5"), "A1 / 0");
        Check.same("one beyond", filled("D5", "=B1+D5", "B5"), "gone B5 / 1");
        Check.same("25 beyond", filled("Z5", "=A1", "A5"), "gone / 1");
    }

    private static void rightOfTheSheet() {
        Check.same("just in Z", filled("D5", "=Y1", "E5"), "Z1 / 0");
        Check.same("one beyond is not A of the next ROW", filled("D5", "=Y1+D5", "F5"), "gone F5 / 1");
        Check.same("25 beyond", filled("A5", "=Z1", "Z5"), "gone / 1");
    }

    private static void aboveTheSheet() {
        Check.same("just in 1", filled("D5", "=B2", "D4"), "B1 / 0");
        Check.same("one beyond", filled("D5", "=B2+D5", "D3"), "gone D3 / 1");
        Check.same("199 beyond", filled("D200", "=B1", "D1"), "gone / 1");
    }

    private static void belowTheSheet() {
        Check.same("just in 200", filled("D5", "=B199", "D6"), "B200 / 0");
        Check.same("one beyond", filled("D5", "=B199+D5", "D7"), "gone D7 / 1");
        Check.same("199 beyond", filled("D1", "=B200", "D200"), "gone / 1");
    }

    private static void dollarsStay() {
        Check.same("COLUMN", filled("D5", "=$A5+A5", "C5"), "A5 gone / 1");
        Check.same("ROW", filled("D5", "=D$1+D1", "D4"), "D1 gone / 1");
        Check.same("only the other of the two", filled("D5", "=$A1+A$1+$A$1", "C4"), "gone gone A1 / 2");
        Check.same("of a RANGE", filled("D5", "=SUM($A$1:D5)", "C4"), "A1 C4 / 0");
    }

    private static void oneCornerBeyond() {
        Check.same("the first, left", filled("D5", "=SUM(A1:D9)+D4", "C5"), "gone gone C4 / 2");
        Check.same("the second, left", filled("D5", "=SUM(D9:A1)+D4", "C5"), "gone gone C4 / 2");
        Check.same("the second, right", filled("D5", "=D4+SUM(X1:Z1)", "E5"), "E4 gone gone / 2");
        Check.same("the first, above", filled("D5", "=SUM(B1:C9)", "D4"), "gone gone / 2");
        Check.same("the second, below", filled("D5", "=SUM(B1:C200)", "D6"), "gone gone / 2");
        Check.same("the one without $", filled("D5", "=SUM($A$1:A1)", "C5"), "gone gone / 2");
        Check.same("just within", filled("D5", "=SUM(B2:Y199)", "C4"), "A1 X198 / 0");
    }

    private static void bothCornersBeyond() {
        Check.same("left", filled("D5", "=SUM(A1:A9)", "C5"), "gone gone / 2");
        Check.same("above", filled("D5", "=SUM(A1:C1)", "D4"), "gone gone / 2");
        Check.same("one to each side", filled("D5", "=SUM(A199:Z200)", "E6"), "gone gone / 2");
    }

    private static void valueOfGone() {
        Sheet sheet = with("D5", "=A1");
        sheet.fill("D5", "C5", "C5");
        Check.same("a REF", sheet.show("C5"), "#ref");
        sheet.put("D5", "=ROWS(A1:B2)");
        sheet.fill("D5", "D4", "D4");
        Check.same("a RANGE", sheet.show("D4"), "#ref");
    }

    private static void goneStaysGone() {
        Sheet sheet = with("D5", "=A1+D1+SUM(A1:D9)");
        sheet.fill("D5", "C5", "C5");
        Check.same("GONE", sheet.refs("C5"), "gone C1 gone gone");
        sheet.fill("C5", "D5", "D5");
        Check.same("and back", sheet.refs("D5"), "gone D1 gone gone");
        sheet.undo();
        Check.same("but by undo", sheet.refs("D5"), "A1 D1 A1 D9");
    }

    private static void syntax() {
        Sheet sheet = with("D5", "=A1+");
        Check.same("fill", sheet.fill("D5", "C5", "C5"), "1");
        Check.same("C5", sheet.show("C5") + sheet.ledger.content(2, 4, 1), "#syntax0");
    }

    private static void cellLimit() {
        Sheet sheet = with("A1", "5");
        Check.same("400", sheet.fill("A1", "A1", "B200"), "399");
        Check.same("401", sheet.fill("A1", "C1", "C1"), REFUSED);
        Check.same("400 again, others", sheet.fill("A1", "A1", "B200"), "0");
        Sheet other = with("Z200", "5");
        Check.same("401 with the CELL beside", other.fill("Z200", "A1", "B200"), REFUSED);
        Check.same("400 with the CELL beside", other.fill("Z200", "A2", "B200"), "398");
        Check.same("and one", other.fill("Z200", "A1", "A1"), "1");
        Check.same("and no more", other.fill("Z200", "B1", "B1"), REFUSED);
    }

    private static void rangeLimit() {
        Sheet sheet = with("A1", "=ROWS($B$1:$Z$200)");
        Check.same("4 times 5000", sheet.fill("A1", "A1", "A4"), "3");
        Check.same("5 times", sheet.fill("A1", "A5", "A5"), REFUSED);
        sheet.put("A4", "=ROWS($B$1:$Z$199)");
        sheet.put("A5", "=ROWS(C$1:C1)");
        sheet.fill("A5", "A20", "A20");
        Check.same("16 of them, 19992 in all", sheet.show("A20"), "16");
        Check.same("20001", sheet.fill("A5", "A13", "A13"), REFUSED);
        Check.same("20000", sheet.fill("A5", "A12", "A12"), "1");
        Check.same("8 of them", sheet.show("A12"), "8");
        Check.same("1 more", sheet.fill("A5", "B5", "B5"), REFUSED);
    }

    private static void refusedChangesNothing() {
        Sheet sheet = with("A1", "5");
        sheet.put("B1", "=ROWS($C$1:$Z$200)");
        sheet.put("C1", "=A1");
        sheet.undo();
        sheet.type("abc");
        String before = sheet.picture("A1", "B1", "A2", "B2", "C1");
        Check.same("too many CELLS", sheet.fill("A1", "A1", "Z200"), REFUSED);
        Check.same("too many in RANGES", sheet.fill("B1", "B1", "B5"), REFUSED);
        Check.same("all as before", sheet.picture("A1", "B1", "A2", "B2", "C1"), before);
        Check.same("redo is still there", sheet.redo(), "1");
        Check.same("undo, too", sheet.undo() + sheet.undo() + sheet.undo() + sheet.undo(), "111" + REFUSED);
    }
}
