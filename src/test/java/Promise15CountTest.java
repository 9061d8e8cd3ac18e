/** Promise 15: count. */
public final class Promise15CountTest {
    public static void main(String[] args) {
        Sheet sheet = new Sheet();
        Check.same("new", sheet.counts(), "0 0 0 0 0 0 0 0");
        sheet.type("12345");
        Check.same("INPUT", sheet.counts(), "5 0 0 0 0 0 0 0");
        sheet.ledger.put(0, 0);
        Check.same("put", sheet.counts(), "0 1 1 0 1 0 0 1");
        sheet.put("B1", "text");
        sheet.put("C1", "=A1");
        sheet.put("D1", "=1+");
        Check.same("contents", sheet.counts(), "0 1 4 0 4 2 0 4");
        sheet.put("E1", "=F1");
        sheet.put("F1", "=E1");
        Check.same("a cycle", sheet.counts(), "0 2 6 0 6 4 2 6");
        sheet.put("G1", "=F1+1");
        sheet.put("H1", "=IFERROR(F1,0)");
        sheet.put("I1", "=G1");
        Check.same("by reading one", sheet.counts(), "0 1 9 0 9 7 4 9");
        sheet.undo();
        sheet.undo();
        Check.same("undo", sheet.counts(), "0 1 7 2 7 5 3 11");
        sheet.redo();
        Check.same("redo", sheet.counts(), "0 1 8 1 8 6 3 12");
        sheet.put("F1", "");
        Check.same("no cycle more", sheet.counts(), "0 3 9 0 7 5 0 13");
        Check.same("what changed", sheet.changes(), "E1 F1 G1");
        otherWhats(sheet.ledger);
        Check.finish();
    }

    private static void otherWhats(GridLedger ledger) {
        for (int what : new int[] {8, 9, -1, Integer.MAX_VALUE, Integer.MIN_VALUE}) {
            Check.same("count " + what, Sheet.of(() -> ledger.count(what)), "-1");
        }
    }
}
