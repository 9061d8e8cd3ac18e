/** Promise 1: in a new object all CELLS are empty. */
public final class Promise01NewObjectTest {
    public static void main(String[] args) {
        someCells();
        nothingIsRead();
        twoObjectsAreApart();
        Check.finish();
    }

    private static void someCells() {
        Sheet sheet = new Sheet();
        for (String cell : new String[] {"A1", "B1", "Z1", "A2", "M100", "A200", "Y199", "Z200"}) {
            Check.same(cell, sheet.picture(cell), "0 0 0 0 0 0 0 0 changed ; " + cell + " empty of 0 ");
        }
        Check.same("letter", Sheet.of(() -> sheet.ledger.letter(0, 0, 0)), "NoSuchElementException");
        Check.same("reference", Sheet.of(() -> sheet.ledger.reference(0, 0, 0)), "NoSuchElementException");
    }

    private static void nothingIsRead() {
        Check.same("COUNTA", new Sheet().worth("A1", "=COUNTA(B1:Z200)+COUNTA(A2:A200)"), "0");
        Check.same("COUNTIF", new Sheet().worth("Z200", "=COUNTIF(A1:Z199,0)+COUNTIF(A200:Y200,\"\")"), "5199");
    }

    private static void twoObjectsAreApart() {
        Sheet one = new Sheet();
        Sheet other = new Sheet();
        one.put("A1", "5");
        Check.same("other", other.show("A1"), "empty");
        Check.same("other's counts", other.counts(), "0 0 0 0 0 0 0 0");
    }
}
