/** Promise 2: feed. */
public final class Promise02FeedTest {
    public static void main(String[] args) {
        bytesComeHighestFirst();
        lengthsUpToTheLimit();
        aRefusedFeedChangesNothing();
        Check.finish();
    }

    private static void bytesComeHighestFirst() {
        Sheet sheet = new Sheet();
        Check.same("feed", sheet.ledger.feed(0x41424344, 0x45464748, 0x494A4B4C, 0x4D4E4F50, 0x51525354), 20);
        sheet.ledger.put(0, 0);
        Check.same("A1", sheet.show("A1"), "'ABCDEFGHIJKLMNOPQRST'");
        Check.same("feed behind put", sheet.ledger.feed(0x7E202020, 0x20202020, 0x20202020, 0x20202020, 0x2020207E), 20);
        sheet.ledger.put(0, 0);
        Check.same("A1", sheet.show("A1"), "'~                  ~'");
        sheet.ledger.feed(0x61616161, 0x61616161, 0x61616161, 0x61616161, 0x61616161);
        sheet.ledger.end(17);
        Check.same("more behind what is there", sheet.ledger.feed(0x62626262, 0, 0, 0, 0), 23);
        sheet.ledger.end(16);
        sheet.ledger.put(0, 0);
        Check.same("A1", sheet.show("A1"), "'aaabbbb'");
    }

    private static void lengthsUpToTheLimit() {
        GridLedger ledger = new GridLedger();
        for (int i = 1; i <= 12; i++) {
            Check.same("feed " + i, ledger.feed(-1, 0, Integer.MIN_VALUE, Integer.MAX_VALUE, 5), 20 * i);
            Check.same("count", ledger.count(0), 20 * i);
        }
        Check.same("feed 13", Sheet.of(() -> ledger.feed(0, 0, 0, 0, 0)), "IndexOutOfBoundsException");
        ledger.end(19);
        Check.same("at 221", Sheet.of(() -> ledger.feed(0, 0, 0, 0, 0)), "IndexOutOfBoundsException");
        ledger.end(1);
        Check.same("at 220", Sheet.of(() -> ledger.feed(0, 0, 0, 0, 0)), "240");
    }

    private static void aRefusedFeedChangesNothing() {
        Sheet sheet = new Sheet();
        sheet.type("0".repeat(230) + "1234567890");
        Check.same("feed", Sheet.of(() -> sheet.ledger.feed(0, 0, 0, 0, 0)), "IndexOutOfBoundsException");
        Check.same("length", sheet.ledger.count(0), 240);
        Check.same("put", Sheet.of(() -> sheet.ledger.put(0, 0)), "1");
        Check.same("A1", sheet.show("A1"), "1234567890");
    }
}
