/** Promise 1: in a new object all CELLS are empty. */
public final class Promise01NewObjectTest {
    public static void main(String[] args) {
        Sheet sheet = new Sheet();
        for (int row = 0; row < 200; row++) {
            for (int column = 0; column < 26; column++) {
                Check.same("kind", sheet.ledger.content(column, row, 0), 0);
                Check.same("refs", sheet.ledger.content(column, row, 1), 0);
                Check.same("gone", sheet.ledger.content(column, row, 2), 0);
                Check.same("value", sheet.show(column, row), "empty");
            }
        }
        Check.same("counts", sheet.counts(), "0 0 0 0 0 0 0 0");
        Check.same("changed", Sheet.of(() -> sheet.ledger.changed(0)), "NoSuchElementException");
        Check.same("undo", sheet.undo(), "IllegalStateException");
        Check.same("redo", sheet.redo(), "IllegalStateException");
        twoObjectsAreApart();
        Check.finish();
    }

    private static void twoObjectsAreApart() {
        Sheet one = new Sheet();
        Sheet other = new Sheet();
        one.put("A1", "5");
        Check.same("other", other.show("A1"), "empty");
        Check.same("other's counts", other.counts(), "0 0 0 0 0 0 0 0");
    }
}
