/** Promise 13: reference. */
public final class Promise13ReferenceTest {
    public static void main(String[] args) {
        Sheet sheet = new Sheet();
        GridLedger ledger = sheet.ledger;
        sheet.put("C3", "=$Z$200+SUM(B2:A1)*IF(A5,NOSUCH(D4:E$5),$F6)+A1");
        int[] due = {25 + 26 * 199, 1 + 26, 0, 26 * 4, 3 + 26 * 3, 4 + 26 * 4, 5 + 26 * 5, 0};
        for (int i = 0; i < due.length; i++) {
            Check.same("reference " + i, ledger.reference(2, 2, i), due[i]);
        }
        for (int i : new int[] {due.length, -1, 50, Integer.MAX_VALUE, Integer.MIN_VALUE}) {
            Check.same("reference " + i, Sheet.of(() -> ledger.reference(2, 2, i)), "NoSuchElementException");
        }
        sheet.erase(false, 0, 2);
        Check.same("GONE", sheet.refs("C1"), "Z198 gone gone A3 D2 E3 F4 gone");
        Check.same("GONE", ledger.reference(2, 0, 1), -1);
        Check.same("none behind", Sheet.of(() -> ledger.reference(2, 0, 8)), "NoSuchElementException");
        for (String content : new String[] {"", "5", "A1", "=5", "=A1+"}) {
            sheet.put("A1", content);
            Check.same("none in " + content, Sheet.of(() -> ledger.reference(0, 0, 0)), "NoSuchElementException");
        }
        int[][] bad = {{-1, 0}, {26, 0}, {0, -1}, {0, 200}};
        for (int[] b : bad) {
            Check.same("bad", Sheet.of(() -> ledger.reference(b[0], b[1], 0)), "IllegalArgumentException");
            Check.same("bad goes first", Sheet.of(() -> ledger.reference(b[0], b[1], -1)), "IllegalArgumentException");
        }
        Check.finish();
    }
}
