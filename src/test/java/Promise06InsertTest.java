/** Promise 6: insert. */
public final class Promise06InsertTest {
    public static void main(String[] args) {
        cellsMove();
        refsFollow();
        leavingTheSheet();
        rangesAtTheEnd();
        rangesGrow();
        badNumbers();
        Check.finish();
    }

    private static void cellsMove() {
        Sheet sheet = new Sheet();
        sheet.put("A1", "1");
        sheet.put("B2", "2");
        sheet.put("C3", "3");
        Check.same("a ROW", sheet.insert(false, 1, 1), "4");
        Check.same("which", sheet.changes(), "B2 B3 C3 C4");
        Check.same("A1", sheet.show("A1"), "1");
        Check.same("B3", sheet.show("B3"), "2");
        Check.same("COLUMNS", sheet.insert(true, 0, 3), "6");
        Check.same("D1", sheet.show("D1"), "1");
        Check.same("E3", sheet.show("E3"), "2");
        Check.same("behind all", sheet.insert(false, 199, 50), "0");
        Check.same("is an EDIT", sheet.ledger.count(2), 6);
        Check.same("50", sheet.insert(false, 0, 50), "6");
        Check.same("F54", sheet.show("F54"), "3");
        Sheet alike = new Sheet();
        alike.put("A1", "7");
        alike.put("A2", "7");
        Check.same("the same VALUE comes to A2", alike.insert(false, 0, 1), "2");
        Check.same("which", alike.changes(), "A1 A3");
    }

    private static void refsFollow() {
        Sheet sheet = new Sheet();
        sheet.put("A1", "=B2+$B$2+SUM(B1:B3)+SUM($C$3:A$1)");
        sheet.put("B2", "4");
        sheet.insert(false, 1, 2);
        Check.same("rows", sheet.refs("A1"), "B4 B4 B1 B5 C5 A1");
        sheet.insert(true, 1, 1);
        Check.same("columns", sheet.refs("A1"), "C4 C4 C1 C5 D5 A1");
        sheet.insert(false, 0, 1);
        Check.same("all", sheet.refs("A2"), "C5 C5 C2 C6 D6 A2");
        Check.same("before a RANGE's first", sheet.insert(false, 1, 1), "4");
        Check.same("it moves whole", sheet.refs("A3"), "C6 C6 C3 C7 D7 A3");
        sheet.insert(false, 7, 1);
        Check.same("behind its last", sheet.refs("A3"), "C6 C6 C3 C7 D7 A3");
    }

    private static void leavingTheSheet() {
        Sheet sheet = new Sheet();
        sheet.put("A200", "5");
        sheet.put("Z1", "=A200");
        String before = sheet.counts();
        Check.same("a ROW", sheet.insert(false, 0, 1), "IllegalStateException");
        Check.same("the last one", sheet.insert(false, 199, 1), "IllegalStateException");
        Check.same("a COLUMN", sheet.insert(true, 25, 1), "IllegalStateException");
        Check.same("50 COLUMNS", sheet.insert(true, 0, 50), "IllegalStateException");
        Check.same("counts", sheet.counts(), before);
        Check.same("A200", sheet.show("A200"), "5");
        Check.same("refs", sheet.refs("Z1"), "A200");
        sheet.put("Z1", "");
        sheet.put("A1", "=A200+A199+Z1+$Z$1");
        sheet.put("A200", "");
        Check.same("more COLUMNS than there are", sheet.insert(true, 1, 50), "1");
        Check.same("Z went", sheet.refs("A1"), "A200 A199 gone gone");
        Check.same("A1", sheet.show("A1"), "#ref");
        sheet.undo();
        sheet.insert(false, 1, 1);
        Check.same("A200 went", sheet.refs("A1"), "gone A200 Z1 Z1");
        sheet.put("A150", "9");
        Check.same("50 ROWS just fit", sheet.insert(false, 149, 50), "2");
        Check.same("A200", sheet.show("A200"), "9");
        sheet.undo();
        Check.same("a CELL further they don't", sheet.put("A151", "9"), "1");
        Check.same("refused", sheet.insert(false, 149, 50), "IllegalStateException");
    }

    private static void rangesAtTheEnd() {
        Sheet sheet = new Sheet();
        sheet.put("A1", "=ROWS(B190:C200)+ROWS(C200:B190)+ROWS(B195:B200)+ROWS(Y1:Z1)");
        sheet.insert(false, 194, 5);
        Check.same("a corner is the last ROW", sheet.refs("A1"), "B190 C200 C200 B190 B200 B200 Y1 Z1");
        sheet.insert(false, 199, 1);
        Check.same("all its CELLS left", sheet.refs("A1"), "B190 C200 C200 B190 gone gone Y1 Z1");
        Check.same("A1", sheet.show("A1"), "#ref");
        sheet.insert(true, 25, 7);
        Check.same("the last COLUMN", sheet.refs("A1"), "B190 C200 C200 B190 gone gone Y1 Z1");
        sheet.insert(true, 20, 2);
        Check.same("COLUMNS left", sheet.refs("A1"), "B190 C200 C200 B190 gone gone gone gone");
    }

    private static void rangesGrow() {
        Sheet sheet = new Sheet();
        sheet.put("A1", "=ROWS(B1:Z100)");
        sheet.fill("A1", "A1", "A8");
        Check.same("20000 at 8 RANGES of 2500", sheet.ledger.count(4), 8);
        String before = sheet.counts();
        Check.same("one more ROW in them", sheet.insert(false, 50, 1), "IllegalStateException");
        Check.same("counts", sheet.counts(), before);
        Check.same("refs", sheet.refs("A1"), "B1 Z100");
        Check.same("behind them", sheet.insert(false, 107, 1), "0");
    }

    private static void badNumbers() {
        Sheet sheet = new Sheet();
        sheet.put("Z200", "5");
        String before = sheet.counts();
        int[][] rows = {{-1, 1}, {200, 1}, {0, 0}, {0, -1}, {0, 51}, {Integer.MAX_VALUE, 1}, {0, Integer.MIN_VALUE}};
        for (int[] b : rows) {
            Check.same("rows " + b[0] + " " + b[1], sheet.insert(false, b[0], b[1]), "IllegalArgumentException");
        }
        int[][] columns = {{-1, 1}, {26, 1}, {0, 0}, {0, -5}, {0, 51}, {199, 1}};
        for (int[] b : columns) {
            Check.same("columns " + b[0] + " " + b[1], sheet.insert(true, b[0], b[1]), "IllegalArgumentException");
        }
        Check.same("counts", sheet.counts(), before);
    }
}
