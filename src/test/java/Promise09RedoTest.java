/** Promise 9: redo. */
public final class Promise09RedoTest {
    public static void main(String[] args) {
        doneAgain();
        notBehindAnEdit();
        refusedOnesLeaveIt();
        allForty();
        Check.finish();
    }

    private static void doneAgain() {
        Sheet sheet = new Sheet();
        Check.same("none", sheet.redo(), "IllegalStateException");
        sheet.put("A1", "1");
        Check.same("none undone", sheet.redo(), "IllegalStateException");
        sheet.put("B1", "=A1+1");
        sheet.insert(true, 0, 1);
        sheet.erase(true, 1, 1);
        Check.same("B1", sheet.show("B1"), "#ref");
        sheet.undo();
        sheet.undo();
        sheet.undo();
        sheet.undo();
        Check.same("counts", sheet.counts(), "0 1 0 4 0 0 0 8");
        Check.same("put", sheet.redo(), "1");
        Check.same("put", sheet.redo(), "1");
        Check.same("B1", sheet.show("B1"), "2");
        Check.same("insert", sheet.redo(), "3");
        Check.same("which", sheet.changes(), "A1 B1 C1");
        Check.same("refs", sheet.refs("C1"), "B1");
        Check.same("counts", sheet.counts(), "0 3 3 1 2 1 0 11");
        Check.same("erase", sheet.redo(), "2");
        Check.same("which", sheet.changes(), "B1 C1");
        Check.same("refs", sheet.refs("B1"), "gone");
        Check.same("none more", sheet.redo(), "IllegalStateException");
        Check.same("counts", sheet.counts(), "0 2 4 0 1 1 0 12");
    }

    private static void notBehindAnEdit() {
        Sheet sheet = new Sheet();
        sheet.put("A1", "1");
        sheet.put("A1", "2");
        sheet.put("A1", "3");
        sheet.undo();
        sheet.undo();
        Check.same("an EDIT that changes nothing", sheet.put("A1", "1"), "0");
        Check.same("redo", sheet.redo(), "IllegalStateException");
        Check.same("A1", sheet.show("A1"), "1");
        Check.same("counts", sheet.counts(), "0 0 2 0 1 0 0 6");
        sheet.undo();
        sheet.undo();
        Check.same("A1", sheet.show("A1"), "empty");
        sheet.redo();
        sheet.redo();
        Check.same("A1", sheet.show("A1"), "1");
        Check.same("none", sheet.redo(), "IllegalStateException");
    }

    private static void refusedOnesLeaveIt() {
        Sheet sheet = new Sheet();
        sheet.put("Z200", "1");
        sheet.put("A1", "2");
        sheet.undo();
        sheet.insert(false, 0, 1);
        sheet.insert(false, 0, 0);
        sheet.put("A1", "\n");
        sheet.fill("Z200", "A1", "Z200");
        sheet.erase(true, 25, 2);
        Check.same("redo", sheet.redo(), "1");
        Check.same("A1", sheet.show("A1"), "2");
    }

    private static void allForty() {
        Sheet sheet = new Sheet();
        for (int i = 1; i <= 50; i++) {
            sheet.put("A1", String.valueOf(i));
        }
        for (int i = 0; i < 40; i++) {
            sheet.undo();
        }
        for (int i = 11; i <= 50; i++) {
            Check.same("redo", sheet.redo(), "1");
            Check.same("A1", sheet.show("A1"), String.valueOf(i));
        }
        Check.same("no more", sheet.redo(), "IllegalStateException");
    }
}
