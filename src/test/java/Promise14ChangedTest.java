/** Promise 14: changed. */
public final class Promise14ChangedTest {
    public static void main(String[] args) {
        byTheLatest();
        rowByRow();
        whatIsAnother();
        aRefusedCallLeavesIt();
        most();
        Check.finish();
    }

    private static void byTheLatest() {
        Sheet sheet = new Sheet();
        Check.same("none yet", Sheet.of(() -> sheet.ledger.changed(0)), "NoSuchElementException");
        sheet.put("D7", "1");
        Check.same("changed", sheet.ledger.changed(0), 3 + 26 * 6);
        for (int i : new int[] {1, -1, 800, Integer.MAX_VALUE, Integer.MIN_VALUE}) {
            Check.same("changed " + i, Sheet.of(() -> sheet.ledger.changed(i)), "NoSuchElementException");
        }
        sheet.put("Z200", "1");
        Check.same("changed", sheet.ledger.changed(0), 25 + 26 * 199);
        sheet.put("Z200", "1");
        Check.same("nothing", Sheet.of(() -> sheet.ledger.changed(0)), "NoSuchElementException");
        sheet.undo();
        Check.same("nothing", sheet.changes(), "");
        sheet.undo();
        Check.same("undo", sheet.changes(), "Z200");
        sheet.undo();
        Check.same("undo", sheet.changes(), "D7");
        sheet.redo();
        Check.same("redo", sheet.changes(), "D7");
        Check.same("one", sheet.ledger.count(1), 1);
    }

    private static void rowByRow() {
        Sheet sheet = new Sheet();
        sheet.put("B2", "1");
        sheet.put("A3", "=B2");
        sheet.put("C1", "=A3");
        sheet.put("Z1", "=C1+A3");
        sheet.put("A2", "=Z1");
        Check.same("all", sheet.put("B2", "2"), "5");
        Check.same("which", sheet.changes(), "C1 Z1 A2 B2 A3");
    }

    private static void whatIsAnother() {
        Sheet sheet = new Sheet();
        sheet.put("A1", "1");
        String[] others = {
            "=TRUE", "1", "=\"1\"", "=NOSUCH()", "=1/0", "=NA()", "abc", "abd", "ab", "=1=2", "=2=2", "0", "", "=\"\"", "",
            "=A1"
        };
        for (String other : others) {
            Check.same("A1 is " + other, sheet.put("A1", other), "1");
            Check.same("it is A1", sheet.changes(), "A1");
        }
        String[][] sames = {{"5", "=2+3"}, {"abc", "=\"a\"&\"bc\""}, {"=1/0", "=MOD(7,0)"}, {"=TRUE", "=1=1"}, {"0", "=B1"}};
        for (String[] two : sames) {
            sheet.put("A1", two[0]);
            Check.same(two[0] + " and " + two[1], sheet.put("A1", two[1]), "0");
        }
    }

    private static void aRefusedCallLeavesIt() {
        Sheet sheet = new Sheet();
        sheet.put("Z200", "1");
        sheet.insert(true, 0, 1);
        sheet.put("A1", "\n");
        sheet.fill("Z200", "A1", "Z200");
        sheet.redo();
        sheet.type("abc");
        sheet.show("Z200");
        Check.same("still", sheet.changes(), "Z200");
    }

    private static void most() {
        Sheet sheet = new Sheet();
        sheet.put("A1", "=ROW(A1)+COLUMN(A1)*1000");
        sheet.fill("A1", "A1", "B200");
        Check.same("400 go and 400 come", sheet.insert(true, 0, 2), "800");
        Check.same("the last", sheet.ledger.changed(799), 3 + 26 * 199);
        Check.same("the first", sheet.ledger.changed(0), 0);
        Check.same("none behind", Sheet.of(() -> sheet.ledger.changed(800)), "NoSuchElementException");
    }
}
