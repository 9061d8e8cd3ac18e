/** Promise 7: erase. */
public final class Promise07EraseTest {
    public static void main(String[] args) {
        cellsGoAndComeUp();
        refs();
        ranges();
        badNumbers();
        Check.finish();
    }

    private static void cellsGoAndComeUp() {
        Sheet sheet = new Sheet();
        sheet.put("A1", "1");
        sheet.put("A2", "2");
        sheet.put("A3", "3");
        sheet.put("C3", "c");
        sheet.put("Z200", "z");
        Check.same("a ROW", sheet.erase(false, 1, 1), "6");
        Check.same("which", sheet.changes(), "A2 C2 A3 C3 Z199 Z200");
        Check.same("A2", sheet.show("A2"), "3");
        Check.same("Z199", sheet.show("Z199"), "'z'");
        Check.same("Z200", sheet.show("Z200"), "empty");
        Check.same("COLUMNS", sheet.erase(true, 0, 2), "5");
        Check.same("A2", sheet.show("A2"), "'c'");
        Check.same("X199", sheet.show("X199"), "'z'");
        Check.same("nothing there", sheet.erase(true, 25, 1), "0");
        Check.same("is an EDIT", sheet.ledger.count(2), 8);
        Check.same("the last 50", sheet.erase(false, 150, 50), "1");
        Check.same("all 26", sheet.erase(true, 0, 26), "1");
        Check.same("none left", sheet.ledger.count(4), 0);
    }

    private static void refs() {
        Sheet sheet = new Sheet();
        sheet.put("A1", "=B2+$B$3+C4+Z200");
        sheet.put("B3", "5");
        sheet.erase(false, 1, 1);
        Check.same("rows", sheet.refs("A1"), "gone B2 C3 Z199");
        Check.same("A1", sheet.show("A1"), "#ref");
        sheet.erase(true, 1, 1);
        Check.same("columns", sheet.refs("A1"), "gone gone B3 Y199");
        sheet.insert(true, 1, 1);
        Check.same("GONE stays", sheet.refs("A1"), "gone gone C3 Z199");
        Check.same("how many", sheet.ledger.content(0, 0, 2), 2);
        sheet.undo();
        sheet.undo();
        sheet.undo();
        Check.same("undone", sheet.refs("A1"), "B2 B3 C4 Z200");
        Check.same("undone", sheet.show("A1"), "5");
    }

    private static void ranges() {
        Sheet sheet = new Sheet();
        sheet.put("A1", "=SUM(B2:D5)+SUM(D5:B2)+SUM(D2:B5)+SUM(B5:D2)");
        sheet.erase(false, 2, 1);
        Check.same("within", sheet.refs("A1"), "B2 D4 D4 B2 D2 B4 B4 D2");
        sheet.erase(false, 1, 1);
        Check.same("the first ROW", sheet.refs("A1"), "B2 D3 D3 B2 D2 B3 B3 D2");
        sheet.erase(true, 3, 1);
        Check.same("the last COLUMN", sheet.refs("A1"), "B2 C3 C3 B2 C2 B3 B3 C2");
        sheet.erase(true, 1, 1);
        Check.same("the first COLUMN", sheet.refs("A1"), "B2 B3 B3 B2 B2 B3 B3 B2");
        sheet.erase(false, 2, 5);
        Check.same("the last ROW and more", sheet.refs("A1"), "B2 B2 B2 B2 B2 B2 B2 B2");
        sheet.erase(true, 1, 3);
        Check.same("all", sheet.refs("A1"), "gone gone gone gone gone gone gone gone");
        Check.same("A1", sheet.show("A1"), "#ref");
        Sheet other = new Sheet();
        other.put("A1", "=ROWS(B5:B20)");
        other.erase(false, 2, 10);
        Check.same("from before it", other.refs("A1"), "B3 B10");
        other.erase(false, 5, 50);
        Check.same("to behind it", other.refs("A1"), "B3 B5");
        other.erase(false, 1, 50);
        Check.same("around it", other.refs("A1"), "gone gone");
        other.put("A1", "=ROWS(B150:B200)");
        other.erase(false, 150, 50);
        Check.same("up to the end", other.refs("A1"), "B150 B150");
    }

    private static void badNumbers() {
        Sheet sheet = new Sheet();
        sheet.put("Z200", "5");
        String before = sheet.counts();
        int[][] rows = {
            {-1, 1}, {200, 1}, {0, 0}, {0, -1}, {0, 51}, {199, 2}, {151, 50}, {Integer.MAX_VALUE, 1},
            {199, Integer.MAX_VALUE}, {Integer.MIN_VALUE, 50}
        };
        for (int[] b : rows) {
            Check.same("rows " + b[0] + " " + b[1], sheet.erase(false, b[0], b[1]), "IllegalArgumentException");
        }
        int[][] columns = {{-1, 1}, {26, 1}, {0, 0}, {0, 27}, {25, 2}, {1, 26}};
        for (int[] b : columns) {
            Check.same("columns " + b[0] + " " + b[1], sheet.erase(true, b[0], b[1]), "IllegalArgumentException");
        }
        Check.same("counts", sheet.counts(), before);
        Check.same("Z200", sheet.show("Z200"), "5");
    }
}
