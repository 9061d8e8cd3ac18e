/** Promise 10: value. */
public final class Promise10ValueTest {
    public static void main(String[] args) {
        sorts();
        badArguments();
        Check.finish();
    }

    private static void look(Sheet sheet, String cell, long sort, long number) {
        int column = Sheet.column(cell);
        int row = Sheet.row(cell);
        Check.same(cell + " sort", sheet.ledger.value(column, row, 0), sort);
        Check.same(cell + " number", sheet.ledger.value(column, row, 1), number);
    }

    private static void sorts() {
        Sheet sheet = new Sheet();
        String[] contents = {
            "", "12", "-9223372036854775808", "9223372036854775807", "text", "=\"\"", "=TRUE", "=FALSE", "=1+", "=A1+1",
            "=NOSUCH()", "=\"x\"+1", "=1/0", "=9223372036854775807+1", "=NA()", "=A16", "=A1"
        };
        for (int i = 0; i < contents.length; i++) {
            sheet.put("A" + (i + 1), contents[i]);
        }
        look(sheet, "A1", 0, 0);
        look(sheet, "A2", 1, 12);
        look(sheet, "A3", 1, Long.MIN_VALUE);
        look(sheet, "A4", 1, Long.MAX_VALUE);
        look(sheet, "A5", 2, 4);
        look(sheet, "A6", 2, 0);
        look(sheet, "A7", 3, 1);
        look(sheet, "A8", 3, 0);
        look(sheet, "A9", 4, 1);
        look(sheet, "A10", 1, 1);
        look(sheet, "A11", 4, 3);
        look(sheet, "A12", 4, 4);
        look(sheet, "A13", 4, 5);
        look(sheet, "A14", 4, 6);
        look(sheet, "A15", 4, 7);
        look(sheet, "A16", 4, 8);
        look(sheet, "A17", 1, 0);
        sheet.erase(false, 0, 1);
        look(sheet, "A9", 4, 2);
        look(sheet, "Z200", 0, 0);
    }

    private static void badArguments() {
        GridLedger ledger = new GridLedger();
        int[][] bad = {
            {-1, 0, 0}, {26, 0, 0}, {0, -1, 0}, {0, 200, 0}, {0, 0, -1}, {0, 0, 2}, {0, 0, Integer.MAX_VALUE},
            {Integer.MIN_VALUE, 0, 1}
        };
        for (int[] b : bad) {
            Check.same("value", Sheet.of(() -> ledger.value(b[0], b[1], b[2])), "IllegalArgumentException");
        }
        Check.same("value", Sheet.of(() -> ledger.value(25, 199, 1)), "0");
    }
}
