/** Promise 8: undo. */
public final class Promise08UndoTest {
    public static void main(String[] args) {
        eachEdit();
        atMostForty();
        refusedOnesAreNoEdits();
        oldTextsComeBack();
        Check.finish();
    }

    private static void eachEdit() {
        Sheet sheet = new Sheet();
        Check.same("none", sheet.undo(), "IllegalStateException");
        sheet.put("A1", "1");
        sheet.put("A2", "=A1+A3");
        sheet.fill("A2", "B2", "C2");
        sheet.insert(false, 1, 1);
        sheet.erase(true, 0, 1);
        Check.same("counts", sheet.counts(), "0 3 5 0 2 2 0 5");
        Check.same("refs", sheet.refs("A3"), "A1 A4");
        Check.same("erase", sheet.undo(), "3");
        Check.same("which", sheet.changes(), "A1 A3 C3");
        Check.same("A1", sheet.show("A1"), "1");
        Check.same("refs", sheet.refs("A3"), "A1 A4");
        Check.same("refs", sheet.refs("C3"), "C1 C4");
        Check.same("insert", sheet.undo(), "6");
        Check.same("which", sheet.changes(), "A2 B2 C2 A3 B3 C3");
        Check.same("refs", sheet.refs("C2"), "C1 C3");
        Check.same("fill", sheet.undo(), "2");
        Check.same("C2", sheet.show("C2"), "empty");
        Check.same("put", sheet.undo(), "1");
        Check.same("A2", sheet.show("A2"), "empty");
        Check.same("put", sheet.undo(), "1");
        Check.same("A1", sheet.show("A1"), "empty");
        Check.same("none more", sheet.undo(), "IllegalStateException");
        Check.same("counts", sheet.counts(), "0 1 0 5 0 0 0 10");
    }

    private static void atMostForty() {
        Sheet sheet = new Sheet();
        for (int i = 1; i <= 45; i++) {
            sheet.put("A1", String.valueOf(i));
            Check.same("that can be", sheet.ledger.count(2), Math.min(i, 40));
        }
        for (int i = 44; i >= 5; i--) {
            Check.same("undo", sheet.undo(), "1");
            Check.same("A1", sheet.show("A1"), String.valueOf(i));
        }
        Check.same("counts", sheet.counts(), "0 1 0 40 1 0 0 85");
        Check.same("no more", sheet.undo(), "IllegalStateException");
        Check.same("counts", sheet.counts(), "0 1 0 40 1 0 0 85");
        Check.same("A1", sheet.show("A1"), "5");
        Check.same("redo", sheet.redo(), "1");
        sheet.put("A1", "x");
        Check.same("counts", sheet.counts(), "0 1 2 0 1 0 0 87");
        sheet.undo();
        Check.same("A1", sheet.show("A1"), "6");
        sheet.undo();
        Check.same("A1", sheet.show("A1"), "5");
        Check.same("no more", sheet.undo(), "IllegalStateException");
    }

    private static void refusedOnesAreNoEdits() {
        Sheet sheet = new Sheet();
        sheet.put("A1", "1");
        sheet.put("Z200", "2");
        sheet.insert(false, 0, 1);
        sheet.put("A1", "\n");
        sheet.fill("A1", "A1", "Z200");
        sheet.erase(false, 199, 2);
        Check.same("undo", sheet.undo(), "1");
        Check.same("Z200", sheet.show("Z200"), "empty");
        Check.same("A1", sheet.show("A1"), "1");
        Check.same("nothing changed", sheet.put("A1", "1"), "0");
        Check.same("undo of it", sheet.undo(), "0");
        Check.same("A1", sheet.show("A1"), "1");
        Check.same("CHANGED", sheet.ledger.count(1), 0);
    }

    private static void oldTextsComeBack() {
        Sheet sheet = new Sheet();
        sheet.put("A1", "first");
        sheet.put("A1", "second one");
        sheet.put("A1", "=\"th\"&\"ird\"");
        sheet.put("A1", "");
        sheet.undo();
        Check.same("A1", sheet.show("A1"), "'third'");
        Check.same("kind", sheet.ledger.content(0, 0, 0), 3);
        sheet.undo();
        Check.same("A1", sheet.show("A1"), "'second one'");
        sheet.undo();
        Check.same("A1", sheet.show("A1"), "'first'");
        Check.same("undo", sheet.undo(), "1");
        Check.same("A1", sheet.show("A1"), "empty");
        Check.same("INPUT is no part of it", inputStays(), 4);
    }

    private static int inputStays() {
        Sheet sheet = new Sheet();
        sheet.put("A1", "1");
        sheet.type("five");
        sheet.undo();
        return sheet.ledger.count(0);
    }
}
