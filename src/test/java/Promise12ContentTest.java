/** Promise 12: content. */
public final class Promise12ContentTest {
    public static void main(String[] args) {
        Sheet sheet = new Sheet();
        look(sheet, "A1", "0 0 0");
        sheet.put("A1", "-5");
        look(sheet, "A1", "1 0 0");
        sheet.put("A1", "A2");
        look(sheet, "A1", "2 0 0");
        sheet.put("A1", "=5");
        look(sheet, "A1", "3 0 0");
        sheet.put("A1", "=B2");
        look(sheet, "A1", "3 1 0");
        sheet.put("A1", "=B2+B2*SUM(B2:C3)+SUM(D4)");
        look(sheet, "A1", "3 5 0");
        sheet.erase(false, 1, 1);
        look(sheet, "A1", "3 5 2");
        sheet.erase(false, 1, 1);
        look(sheet, "A1", "3 5 4");
        sheet.erase(false, 1, 1);
        look(sheet, "A1", "3 5 5");
        sheet.put("A1", "=B2+C3+");
        look(sheet, "A1", "3 0 0");
        sheet.put("A1", "=NOSUCH(B2,C3:D4)+IF(1,2,B2)+SUM(B2,C3)");
        look(sheet, "A1", "3 6 0");
        StringBuilder many = new StringBuilder("=B1");
        for (int i = 2; i <= 50; i++) {
            many.append("+B").append(i);
        }
        sheet.put("A1", many.toString());
        look(sheet, "A1", "3 50 0");
        Check.same("A1", sheet.show("A1"), "0");
        look(sheet, "Z200", "0 0 0");
        badArguments(sheet.ledger);
        Check.finish();
    }

    private static void look(Sheet sheet, String cell, String due) {
        int column = Sheet.column(cell);
        int row = Sheet.row(cell);
        String got = sheet.ledger.content(column, row, 0) + " " + sheet.ledger.content(column, row, 1) + " "
                + sheet.ledger.content(column, row, 2);
        Check.same("content of " + cell, got, due);
    }

    private static void badArguments(GridLedger ledger) {
        int[][] bad = {
            {-1, 0, 0}, {26, 0, 0}, {0, -1, 0}, {0, 200, 0}, {0, 0, -1}, {0, 0, 3}, {0, 0, Integer.MIN_VALUE}
        };
        for (int[] b : bad) {
            Check.same("content", Sheet.of(() -> ledger.content(b[0], b[1], b[2])), "IllegalArgumentException");
        }
    }
}
