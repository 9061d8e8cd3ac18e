/** The boundary cases of promises 1 to 3, a test for each: a new object, feed, end. */
public final class EdgesOfInputTest {
    private static final String BAD = "IllegalArgumentException";
    private static final String TOO_MANY = "IndexOutOfBoundsException";

    public static void main(String[] args) {
        Check.sentence("All CELLS are empty", EdgesOfInputTest::allCellsAreEmpty);
        Check.sentence("A new object: nothing was done yet", EdgesOfInputTest::nothingWasDone);
        Check.sentence("INPUT: empty at first", EdgesOfInputTest::inputIsEmptyAtFirst);
        Check.sentence("INPUT gets the twenty bytes of the numbers more", EdgesOfInputTest::twentyBytes);
        Check.sentence("of each the highest first", EdgesOfInputTest::highestFirst);
        Check.sentence("a number below 0 has bytes, too", EdgesOfInputTest::highBytes);
        Check.sentence("INPUT: at most 240 bytes", EdgesOfInputTest::upTo240);
        Check.sentence("More than 240: IndexOutOfBoundsException", EdgesOfInputTest::moreThan240);
        Check.sentence("a refused feed changes nothing", EdgesOfInputTest::refusedFeed);
        Check.sentence("The last n bytes of INPUT go", EdgesOfInputTest::theLastOnesGo);
        Check.sentence("n below 0: bad", EdgesOfInputTest::endBelowZero);
        Check.sentence("n is 0", EdgesOfInputTest::endOfNone);
        Check.sentence("as many must be there: as many as are there", EdgesOfInputTest::endOfAll);
        Check.sentence("as many must be there: one more than are there", EdgesOfInputTest::endOfOneMore);
        Check.finish();
    }

    /** An object for each ROW, as one is used for at most 512 calls. */
    private static void allCellsAreEmpty() {
        for (int row = 0; row < 200; row++) {
            GridLedger ledger = new GridLedger();
            for (int column = 0; column < 26; column++) {
                String cell = Sheet.name(column + 26 * row);
                for (int what = 0; what < 2; what++) {
                    Check.same("value " + what + " of " + cell, ledger.value(column, row, what), 0);
                }
                for (int what = 0; what < 3; what++) {
                    Check.same("content " + what + " of " + cell, ledger.content(column, row, what), 0);
                }
            }
        }
    }

    private static void nothingWasDone() {
        Sheet sheet = new Sheet();
        Check.same("counts", sheet.counts(), "0 0 0 0 0 0 0 0");
        Check.same("undo", sheet.undo(), "IllegalStateException");
        Check.same("redo", sheet.redo(), "IllegalStateException");
        Check.same("changed", Sheet.of(() -> sheet.ledger.changed(0)), "NoSuchElementException");
    }

    private static void inputIsEmptyAtFirst() {
        Sheet sheet = new Sheet();
        Check.same("length", sheet.ledger.count(0), 0);
        Check.same("put of it", Sheet.of(() -> sheet.ledger.put(0, 0)), "0");
        Check.same("nothing", sheet.ledger.content(0, 0, 0), 0);
    }

    private static void twentyBytes() {
        GridLedger ledger = new GridLedger();
        Check.same("first", ledger.feed(1, 2, 3, 4, 5), 20);
        Check.same("second", ledger.feed(0, 0, 0, 0, 0), 40);
        Check.same("length", ledger.count(0), 40);
    }

    private static void highestFirst() {
        Sheet sheet = new Sheet();
        sheet.ledger.feed(0x41424344, 0x45464748, 0x494A4B4C, 0x4D4E4F50, 0x51525354);
        sheet.ledger.feed(0x61626364, 0x65666768, 0x696A6B6C, 0x6D6E6F70, 0x71727374);
        sheet.ledger.put(25, 199);
        Check.same("Z200", sheet.show("Z200"), "'ABCDEFGHIJKLMNOPQRSTabcdefghijklmnopqrst'");
    }

    /** Bytes above 126 are no CONTENT, so what is before them tells that each is one byte. */
    private static void highBytes() {
        Sheet sheet = new Sheet();
        Check.same("feed", sheet.ledger.feed(0x41FF4243, 0x80808080, -1, Integer.MIN_VALUE, -128), 20);
        Check.same("one left", sheet.ledger.end(19), 1);
        Check.same("put", Sheet.of(() -> sheet.ledger.put(0, 0)), "1");
        Check.same("A1", sheet.show("A1"), "'A'");
        sheet.ledger.feed(0x41FF4243, 0, 0, 0, 0);
        sheet.ledger.end(18);
        Check.same("255 is bad", Sheet.of(() -> sheet.ledger.put(0, 0)), BAD);
    }

    private static GridLedger fed(int times) {
        GridLedger ledger = new GridLedger();
        for (int i = 0; i < times; i++) {
            ledger.feed(0, 0, 0, 0, 0);
        }
        return ledger;
    }

    private static void upTo240() {
        GridLedger ledger = fed(11);
        Check.same("the twelfth", Sheet.of(() -> ledger.feed(0, 0, 0, 0, 0)), "240");
        GridLedger other = fed(12);
        other.end(20);
        Check.same("behind 220", Sheet.of(() -> other.feed(0, 0, 0, 0, 0)), "240");
    }

    private static void moreThan240() {
        GridLedger ledger = fed(12);
        Check.same("behind 240", Sheet.of(() -> ledger.feed(0, 0, 0, 0, 0)), TOO_MANY);
        ledger.end(1);
        Check.same("behind 239", Sheet.of(() -> ledger.feed(0, 0, 0, 0, 0)), TOO_MANY);
        ledger.end(18);
        Check.same("behind 221", Sheet.of(() -> ledger.feed(0, 0, 0, 0, 0)), TOO_MANY);
    }

    private static void refusedFeed() {
        Sheet sheet = new Sheet();
        sheet.put("A1", "1");
        sheet.type("=" + " ".repeat(199) + "7");
        sheet.type("a".repeat(20));
        String before = sheet.picture("A1");
        Check.same("behind 221", Sheet.of(() -> sheet.ledger.feed(-1, -1, -1, -1, -1)), TOO_MANY);
        Check.same("all as before", sheet.picture("A1"), before);
        sheet.ledger.end(20);
        sheet.ledger.put(0, 0);
        Check.same("its bytes, too", sheet.show("A1"), "7");
    }

    private static void theLastOnesGo() {
        Sheet sheet = new Sheet();
        sheet.type("abcdefghij");
        Check.same("end", sheet.ledger.end(7), 3);
        sheet.ledger.put(0, 0);
        Check.same("A1", sheet.show("A1"), "'abc'");
    }

    private static void refusedEnd(String input, int n) {
        Sheet sheet = new Sheet();
        sheet.type(input);
        Check.same("end(" + n + ") of " + input, Sheet.of(() -> sheet.ledger.end(n)), BAD);
        Check.same("length", sheet.ledger.count(0), input.length());
        sheet.ledger.put(0, 0);
        Check.same("all is there", sheet.show("A1"), input.isEmpty() ? "empty" : "'" + input + "'");
    }

    private static void endBelowZero() {
        refusedEnd("abc", -1);
        refusedEnd("", -1);
        refusedEnd("abc", Integer.MIN_VALUE);
    }

    private static void endOfNone() {
        Sheet sheet = new Sheet();
        Check.same("of none", Sheet.of(() -> sheet.ledger.end(0)), "0");
        sheet.type("abc");
        Check.same("of three", Sheet.of(() -> sheet.ledger.end(0)), "3");
        sheet.ledger.put(0, 0);
        Check.same("A1", sheet.show("A1"), "'abc'");
    }

    private static void endOfAll() {
        Sheet sheet = new Sheet();
        sheet.type("abc");
        Check.same("three of three", Sheet.of(() -> sheet.ledger.end(3)), "0");
        Check.same("put of none", Sheet.of(() -> sheet.ledger.put(0, 0)), "0");
        GridLedger full = fed(12);
        Check.same("240 of 240", Sheet.of(() -> full.end(240)), "0");
    }

    private static void endOfOneMore() {
        refusedEnd("", 1);
        refusedEnd("abc", 4);
        refusedEnd("abc", Integer.MAX_VALUE);
        GridLedger full = fed(12);
        Check.same("241 of 240", Sheet.of(() -> full.end(241)), BAD);
        Check.same("length", full.count(0), 240);
    }
}
