/** Promise 3: end. */
public final class Promise03EndTest {
    public static void main(String[] args) {
        Sheet sheet = new Sheet();
        GridLedger ledger = sheet.ledger;
        Check.same("end(0) of none", Sheet.of(() -> ledger.end(0)), "0");
        Check.same("end(1) of none", Sheet.of(() -> ledger.end(1)), "IllegalArgumentException");
        sheet.type("abcdefghijklmnopqrst");
        Check.same("below 0", Sheet.of(() -> ledger.end(-1)), "IllegalArgumentException");
        Check.same("lowest", Sheet.of(() -> ledger.end(Integer.MIN_VALUE)), "IllegalArgumentException");
        Check.same("one too many", Sheet.of(() -> ledger.end(21)), "IllegalArgumentException");
        Check.same("highest", Sheet.of(() -> ledger.end(Integer.MAX_VALUE)), "IllegalArgumentException");
        Check.same("nothing went", ledger.count(0), 20);
        Check.same("none", Sheet.of(() -> ledger.end(0)), "20");
        Check.same("one", Sheet.of(() -> ledger.end(1)), "19");
        Check.same("sixteen", Sheet.of(() -> ledger.end(16)), "3");
        ledger.put(1, 1);
        Check.same("the last ones went", sheet.show("B2"), "'abc'");
        sheet.type("xy");
        Check.same("all", Sheet.of(() -> ledger.end(2)), "0");
        Check.same("put of none", Sheet.of(() -> ledger.put(1, 1)), "1");
        Check.same("B2", sheet.show("B2"), "empty");
        Check.finish();
    }
}
