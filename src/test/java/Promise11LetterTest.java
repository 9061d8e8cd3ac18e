/** Promise 11: letter. */
public final class Promise11LetterTest {
    public static void main(String[] args) {
        Sheet sheet = new Sheet();
        sheet.put("A1", "Hi ~");
        sheet.put("A2", "=UPPER(A1)&7");
        sheet.put("A3", "77");
        sheet.put("A4", "=TRUE");
        sheet.put("A5", "=\"\"");
        sheet.put("A6", "=1/0");
        sheet.put("A7", "x".repeat(63) + "y");
        letters(sheet, 0, "Hi ~");
        letters(sheet, 1, "HI ~7");
        for (int row = 2; row <= 5; row++) {
            letters(sheet, row, "");
        }
        letters(sheet, 6, "x".repeat(63) + "y");
        letters(sheet, 7, "");
        letters(sheet, 199, "");
        sheet.put("A1", "b");
        letters(sheet, 0, "b");
        letters(sheet, 1, "B7");
        badPlaces(sheet.ledger);
        Check.finish();
    }

    private static void letters(Sheet sheet, int row, String due) {
        for (int i = 0; i < due.length(); i++) {
            Check.same("letter " + i, sheet.ledger.letter(0, row, i), (int) due.charAt(i));
        }
        for (int i : new int[] {due.length(), due.length() + 1, 64, -1, Integer.MAX_VALUE, Integer.MIN_VALUE}) {
            Check.same("letter " + i, Sheet.of(() -> sheet.ledger.letter(0, row, i)), "NoSuchElementException");
        }
    }

    private static void badPlaces(GridLedger ledger) {
        int[][] bad = {{-1, 0}, {26, 0}, {0, -1}, {0, 200}, {Integer.MAX_VALUE, Integer.MAX_VALUE}};
        for (int[] b : bad) {
            Check.same("letter", Sheet.of(() -> ledger.letter(b[0], b[1], 0)), "IllegalArgumentException");
            Check.same("bad goes first", Sheet.of(() -> ledger.letter(b[0], b[1], -1)), "IllegalArgumentException");
        }
    }
}
