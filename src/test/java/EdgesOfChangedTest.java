/** The boundary cases of promises 14 and 15, a test for each: changed and count. */
public final class EdgesOfChangedTest {
    private static final String NOT_THERE = "NoSuchElementException";

    public static void main(String[] args) {
        Check.sentence("changed: not there: a new object", EdgesOfChangedTest::noneYet);
        Check.sentence("changed: not there: behind the last, below 0", EdgesOfChangedTest::behindTheLast);
        Check.sentence("changed: not there: an EDIT that changes nothing", EdgesOfChangedTest::noneByTheLatest);
        Check.sentence("changed: COLUMN + 26 * ROW: both ends", EdgesOfChangedTest::ends);
        Check.sentence("CHANGED, by the latest EDIT, undo or redo", EdgesOfChangedTest::byTheLatest);
        Check.sentence("CHANGED: in order row by row", EdgesOfChangedTest::rowByRow);
        Check.sentence("CHANGED: of another sort", EdgesOfChangedTest::anotherSort);
        Check.sentence("CHANGED: or not the same", EdgesOfChangedTest::notTheSame);
        Check.sentence("CHANGED: none whose VALUE is the same", EdgesOfChangedTest::theSame);
        Check.sentence("CHANGED: the most there can be", EdgesOfChangedTest::most);
        Check.sentence("CHANGED after a refused call", EdgesOfChangedTest::afterARefusedCall);
        Check.sentence("count 0: INPUT's length", EdgesOfChangedTest::countInput);
        Check.sentence("count 1: CHANGED", EdgesOfChangedTest::countChanged);
        Check.sentence("count 2: EDITS that can be UNDONE", EdgesOfChangedTest::countBack);
        Check.sentence("count 3: EDITS that can be done again", EdgesOfChangedTest::countAhead);
        Check.sentence("count 4: CELLS with CONTENTS", EdgesOfChangedTest::countCells);
        Check.sentence("count 5: CELLS with FORMULAS", EdgesOfChangedTest::countFormulas);
        Check.sentence("count 6: CELLS whose VALUE is ERROR cycle, also by reading one", EdgesOfChangedTest::countCycles);
        Check.sentence("count 7: EDITS done, with undo and redo", EdgesOfChangedTest::countDone);
        Check.sentence("count: else -1", EdgesOfChangedTest::countElse);
        Check.sentence("count after a refused call", EdgesOfChangedTest::countAfterARefusedCall);
        Check.finish();
    }

    private static String changed(Sheet sheet, int i) {
        return Sheet.of(() -> sheet.ledger.changed(i));
    }

    private static void noneYet() {
        for (int i : new int[] {0, 1, -1, Integer.MIN_VALUE, Integer.MAX_VALUE}) {
            Check.same("changed " + i, changed(new Sheet(), i), NOT_THERE);
        }
    }

    private static void behindTheLast() {
        Sheet sheet = new Sheet();
        sheet.put("A1", "5");
        sheet.fill("A1", "B1", "C1");
        Check.same("the last", changed(sheet, 1), "2");
        for (int i : new int[] {2, 3, -1, 400, 800, Integer.MIN_VALUE, Integer.MAX_VALUE}) {
            Check.same("changed " + i, changed(sheet, i), NOT_THERE);
        }
        sheet.put("A1", "6");
        Check.same("of those before", changed(sheet, 1), NOT_THERE);
    }

    private static void noneByTheLatest() {
        Sheet sheet = new Sheet();
        sheet.put("A1", "5");
        sheet.put("A1", "5");
        Check.same("put", changed(sheet, 0), NOT_THERE);
        sheet.put("A1", "6");
        sheet.insert(false, 150, 1);
        Check.same("insert", changed(sheet, 0), NOT_THERE);
    }

    private static void ends() {
        String[] cells = {"A1", "Z1", "A200", "Z200"};
        int[] due = {0, 25, 26 * 199, 25 + 26 * 199};
        for (int i = 0; i < cells.length; i++) {
            Sheet sheet = new Sheet();
            sheet.put(cells[i], "5");
            Check.same(cells[i], changed(sheet, 0), due[i]);
        }
    }

    private static void byTheLatest() {
        Sheet sheet = new Sheet();
        sheet.put("A1", "5");
        sheet.put("B1", "=A1");
        Check.same("put", sheet.changes(), "B1");
        sheet.fill("A1", "C1", "D1");
        Check.same("fill", sheet.changes(), "C1 D1");
        sheet.insert(true, 3, 1);
        Check.same("insert", sheet.changes(), "D1 E1");
        sheet.erase(true, 2, 1);
        Check.same("erase", sheet.changes(), "C1 D1 E1");
        sheet.undo();
        Check.same("undo", sheet.changes(), "C1 D1 E1");
        sheet.undo();
        Check.same("undo", sheet.changes(), "D1 E1");
        sheet.redo();
        Check.same("redo", sheet.changes(), "D1 E1");
        sheet.put("A1", "6");
        Check.same("and who reads it", sheet.changes(), "A1 B1");
    }

    private static void rowByRow() {
        Sheet sheet = new Sheet();
        sheet.put("C3", "1");
        sheet.put("Z1", "=C3");
        sheet.put("A2", "=Z1");
        sheet.put("A1", "=A2");
        sheet.put("A4", "=A1");
        sheet.put("Z3", "=A4");
        sheet.put("C3", "2");
        Check.same("all", sheet.changes(), "A1 Z1 A2 C3 Z3 A4");
        sheet.put("C3", "");
        Check.same("with one that is EMPTY", sheet.changes(), "A1 Z1 A2 C3 Z3 A4");
    }

    private static void another(String one, String other, String due) {
        Sheet sheet = new Sheet();
        sheet.put("A1", one);
        Check.same(one + " and then " + other, sheet.put("A1", other), due);
        Check.same("which", sheet.changes(), due.equals("1") ? "A1" : "");
        sheet.undo();
        Check.same("and back", sheet.ledger.count(1), due);
    }

    private static void anotherSort() {
        another("", "0", "1");
        another("", "=\"\"", "1");
        another("", "=FALSE", "1");
        another("1", "=TRUE", "1");
        another("0", "=FALSE", "1");
        another("5", "=\"5\"", "1");
        another("0", "=\"\"", "1");
        another("5", "=1/0", "1");
        another("=TRUE", "=1+", "1");
        another("=TRUE", "TRUE", "1");
        another("7", "=NA()", "1");
    }

    private static void notTheSame() {
        another("5", "6", "1");
        another("5", "-5", "1");
        another("0", "4294967296", "1");
        another("9223372036854775807", "-9223372036854775808", "1");
        another("abc", "abd", "1");
        another("abc", "ab", "1");
        another("abc", "Abc", "1");
        another("x".repeat(63) + "y", "x".repeat(63) + "z", "1");
        another("=TRUE", "=FALSE", "1");
        another("=1/0", "=NA()", "1");
        another("=A1", "=1+", "1");
    }

    private static void theSame() {
        another("5", "=2+3", "0");
        another("abc", "=\"ab\"&\"c\"", "0");
        another("=TRUE", "=1=1", "0");
        another("=1/0", "=MOD(1,0)", "0");
        another("=A1", "=A1+1", "0");
        another("0", "=B1", "0");
        another("", "", "0");
        another("=\"\"", "=LEFT(\"abc\",0)", "0");
        another("-0", "0", "0");
    }

    /** Which are others when 400 CELLS move aside, each with a VALUE of its own. */
    private static void most() {
        Sheet sheet = new Sheet();
        sheet.put("A1", "=ROW(A1)+COLUMN(A1)*1000");
        sheet.fill("A1", "A1", "B200");
        Check.same("400 and 400", sheet.insert(true, 0, 2), "800");
        Check.same("the first", changed(sheet, 0), "0");
        Check.same("the last", changed(sheet, 799), String.valueOf(3 + 26 * 199));
        Check.same("none behind", changed(sheet, 800), NOT_THERE);
    }

    private static void refusedCalls(Sheet sheet) {
        sheet.put("A1", "\n");
        sheet.put("A1", "=ROWS(A1:Z200)" + "+ROWS(A1:Z200)".repeat(3));
        sheet.fill("Z200", "A1", "Z200");
        sheet.insert(true, 0, 1);
        sheet.insert(true, 0, 51);
        sheet.erase(true, 0, 27);
        sheet.redo();
        Sheet.of(() -> sheet.ledger.end(1));
        Sheet.of(() -> sheet.ledger.changed(-1));
    }

    private static void afterARefusedCall() {
        Sheet sheet = new Sheet();
        sheet.put("Y200", "5");
        sheet.fill("Y200", "Z199", "Z200");
        refusedCalls(sheet);
        Check.same("still", sheet.changes(), "Z199 Z200");
        sheet.undo();
        sheet.undo();
        Check.same("undo", sheet.undo() + sheet.changes(), "IllegalStateExceptionY200");
    }

    private static void countInput() {
        Sheet sheet = new Sheet();
        sheet.ledger.feed(0, 0, 0, 0, 0);
        Check.same("behind feed", sheet.ledger.count(0), 20);
        sheet.ledger.end(13);
        Check.same("behind end", sheet.ledger.count(0), 7);
        Sheet.of(() -> sheet.ledger.put(0, 0));
        Check.same("behind put", sheet.ledger.count(0), 0);
    }

    private static void countChanged() {
        Sheet sheet = new Sheet();
        sheet.put("A1", "5");
        Check.same("put", sheet.ledger.count(1), 1);
        sheet.fill("A1", "A1", "C3");
        Check.same("fill", sheet.ledger.count(1), 8);
        sheet.fill("A1", "A1", "C3");
        Check.same("none", sheet.ledger.count(1), 0);
    }

    private static void countBack() {
        Sheet sheet = new Sheet();
        for (int i = 1; i <= 42; i++) {
            sheet.put("A1", "5");
            Check.same("behind " + i, sheet.ledger.count(2), Math.min(i, 40));
        }
        sheet.undo();
        Check.same("undo", sheet.ledger.count(2), 39);
        sheet.redo();
        Check.same("redo", sheet.ledger.count(2), 40);
    }

    private static void countAhead() {
        Sheet sheet = new Sheet();
        sheet.put("A1", "5");
        sheet.put("A1", "6");
        Check.same("none", sheet.ledger.count(3), 0);
        sheet.undo();
        sheet.undo();
        Check.same("two", sheet.ledger.count(3), 2);
        sheet.redo();
        Check.same("one", sheet.ledger.count(3), 1);
        sheet.put("A1", "7");
        Check.same("none behind an EDIT", sheet.ledger.count(3), 0);
    }

    private static void countCells() {
        Sheet sheet = new Sheet();
        sheet.put("A1", "5");
        sheet.put("A2", "text");
        sheet.put("A3", "=\"\"");
        sheet.put("A4", "=1+");
        sheet.put("A5", "");
        Check.same("four", sheet.ledger.count(4), 4);
        sheet.put("A1", "6");
        Check.same("still", sheet.ledger.count(4), 4);
        sheet.erase(false, 0, 2);
        Check.same("two went", sheet.ledger.count(4), 2);
        sheet.undo();
        Check.same("and came back", sheet.ledger.count(4), 4);
    }

    private static void countFormulas() {
        Sheet sheet = new Sheet();
        sheet.put("A1", "5");
        sheet.put("A2", "text");
        Check.same("none", sheet.ledger.count(5), 0);
        sheet.put("A3", "=5");
        sheet.put("A4", "=1+");
        Check.same("one that is none, too", sheet.ledger.count(5), 2);
        sheet.fill("A3", "B1", "B3");
        Check.same("five", sheet.ledger.count(5), 5);
        sheet.put("A3", "5");
        Check.same("four", sheet.ledger.count(5), 4);
        Sheet full = new Sheet();
        full.put("A1", "=5");
        full.fill("A1", "A1", "B200");
        Check.same("400", full.ledger.count(5), 400);
    }

    private static void countCycles() {
        Sheet sheet = new Sheet();
        sheet.put("A1", "=A1");
        Check.same("itself", sheet.ledger.count(6), 1);
        sheet.put("A2", "=A1+1");
        Check.same("by reading one", sheet.ledger.count(6), 2);
        sheet.put("A3", "=IFERROR(A1,0)");
        sheet.put("A4", "=1/0+A1");
        Check.same("not by reading one alone", sheet.ledger.count(6), 2);
        sheet.put("A1", "5");
        Check.same("none", sheet.ledger.count(6), 0);
        Sheet full = new Sheet();
        full.put("A1", "=A1");
        full.fill("A1", "A1", "B200");
        Check.same("400", full.ledger.count(6), 400);
        full.erase(true, 0, 1);
        Check.same("200", full.ledger.count(6), 200);
        full.erase(true, 0, 1);
        full.put("A1", "5");
        Check.same("none", full.ledger.count(6), 0);
    }

    private static void countDone() {
        Sheet sheet = new Sheet();
        sheet.put("A1", "5");
        sheet.fill("A1", "B1", "B1");
        sheet.insert(false, 0, 1);
        sheet.erase(false, 0, 1);
        Check.same("EDITS", sheet.ledger.count(7), 4);
        sheet.undo();
        sheet.undo();
        sheet.redo();
        Check.same("with undo and redo", sheet.ledger.count(7), 7);
        sheet.put("Z9", "");
        Check.same("one that changes nothing", sheet.ledger.count(7), 8);
        for (int i = 0; i < 45; i++) {
            sheet.put("Z9", "");
        }
        Check.same("above 40", sheet.ledger.count(7), 53);
    }

    private static void countElse() {
        Sheet sheet = new Sheet();
        sheet.put("A1", "5");
        for (int what : new int[] {-1, 8, 9, 100, Integer.MIN_VALUE, Integer.MAX_VALUE}) {
            Check.same("count " + what, Sheet.of(() -> sheet.ledger.count(what)), "-1");
        }
    }

    private static void countAfterARefusedCall() {
        Sheet sheet = new Sheet();
        sheet.put("Y200", "5");
        sheet.put("Z200", "=Z200");
        refusedCalls(sheet);
        Check.same("counts", sheet.counts(), "0 1 2 0 2 1 1 2");
        sheet.type("abc");
        sheet.undo();
        sheet.insert(true, 0, 2);
        Check.same("counts", sheet.counts(), "3 1 1 1 1 0 0 3");
    }
}
