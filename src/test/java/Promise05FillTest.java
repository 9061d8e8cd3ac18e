/** Promise 5: fill. */
public final class Promise05FillTest {
    public static void main(String[] args) {
        contents();
        dollars();
        beyondTheSheet();
        ranges();
        goneStaysGone();
        badBoxes();
        limits();
        Check.finish();
    }

    private static void contents() {
        Sheet sheet = new Sheet();
        sheet.put("B2", "seven");
        Check.same("a TEXT", sheet.fill("B2", "A1", "C3"), "8");
        Check.same("which", sheet.changes(), "A1 B1 C1 A2 C2 A3 B3 C3");
        Check.same("A1", sheet.show("A1"), "'seven'");
        Check.same("D1", sheet.show("D1"), "empty");
        sheet.put("E5", "-3");
        Check.same("a NUMBER", sheet.fill("E5", "A1", "A1"), "1");
        Check.same("A1", sheet.show("A1"), "-3");
        Check.same("nothing", sheet.fill("Z200", "A1", "B2"), "4");
        Check.same("A1 is empty", sheet.ledger.content(0, 0, 0), 0);
        Check.same("C3 is not", sheet.show("C3"), "'seven'");
        Check.same("nothing to nothing", sheet.fill("Z200", "Y1", "Z2"), "0");
        Check.same("cells", sheet.ledger.count(4), 6);
        Check.same("edits", sheet.ledger.count(2), 6);
        Check.same("the whole sheet empty", sheet.fill("Z200", "A1", "Z200"), "6");
        Check.same("none left", sheet.ledger.count(4), 0);
        sheet.undo();
        for (int i = 0; i < 45; i++) {
            sheet.put("Z200", "z");
            sheet.put("Z200", "");
        }
        Check.same("nothing, where there was something", sheet.fill("Z200", "C3", "C3"), "1");
        Check.same("C3", sheet.show("C3"), "empty");
        sheet.put("D4", "=1+");
        Check.same("a SYNTAX", sheet.fill("D4", "D5", "D5"), "1");
        Check.same("D5", sheet.show("D5"), "#syntax");
    }

    private static void dollars() {
        Sheet sheet = new Sheet();
        sheet.put("D4", "=A1+$A1+A$1+$A$1+SUM(B$2:$C3)");
        sheet.fill("D4", "D4", "F7");
        Check.same("D4", sheet.refs("D4"), "A1 A1 A1 A1 B2 C3");
        Check.same("E4", sheet.refs("E4"), "B1 A1 B1 A1 C2 C3");
        Check.same("D5", sheet.refs("D5"), "A2 A2 A1 A1 B2 C4");
        Check.same("F7", sheet.refs("F7"), "C4 A4 C1 A1 D2 C6");
        Check.same("filled from a filled one", sheet.fill("F7", "D4", "D4"), "0");
        Check.same("D4", sheet.refs("D4"), "A1 A1 A1 A1 B2 C3");
        Sheet chain = new Sheet();
        chain.put("A1", "1");
        chain.put("A2", "=A1+1");
        Check.same("the rest of a chain", chain.fill("A2", "A3", "A100"), "98");
        Check.same("a chain", chain.show("A100"), "100");
        Check.same("follows", chain.put("A1", "5"), "100");
    }

    private static void beyondTheSheet() {
        Sheet sheet = new Sheet();
        sheet.put("B2", "=A1&$A1&A$1&$A$1");
        sheet.fill("B2", "A1", "A1");
        Check.same("A1", sheet.refs("A1"), "gone gone gone A1");
        sheet.put("Y199", "=Z200&$Z200&Z$200&$Z$200");
        sheet.fill("Y199", "Z200", "Z200");
        Check.same("Z200", sheet.refs("Z200"), "gone gone gone Z200");
        sheet.fill("Y199", "Y200", "Y200");
        Check.same("Y200", sheet.refs("Y200"), "gone gone Z200 Z200");
        Check.same("its VALUE", sheet.show("Y200"), "#ref");
        sheet.put("C1", "=A1");
        sheet.fill("C1", "B1", "B1");
        Check.same("left of A is none", sheet.refs("B1"), "gone");
        sheet.put("Y1", "=Z1");
        sheet.fill("Y1", "Z1", "Z1");
        Check.same("right of Z is not A2", sheet.refs("Z1"), "gone");
    }

    private static void ranges() {
        Sheet sheet = new Sheet();
        sheet.put("C3", "=ROWS(B2:D4)");
        sheet.fill("C3", "B2", "D4");
        Check.same("B2", sheet.refs("B2"), "A1 C3");
        Check.same("D4", sheet.refs("D4"), "C3 E5");
        sheet.fill("C3", "A1", "A1");
        Check.same("one corner out", sheet.refs("A1"), "gone gone");
        Check.same("gone", sheet.ledger.content(0, 0, 2), 2);
        Check.same("A1", sheet.show("A1"), "#ref");
        sheet.put("C3", "=ROWS(D4:B2)+A200");
        sheet.fill("C3", "C1", "C1");
        Check.same("the second corner out", sheet.refs("C1"), "gone gone A198");
        sheet.put("G5", "=COLUMNS(H$5:G4)");
        sheet.fill("G5", "G8", "G8");
        Check.same("corners change places", sheet.refs("G8"), "H5 G7");
        Check.same("G8", sheet.show("G8"), "2");
    }

    private static void goneStaysGone() {
        Sheet sheet = new Sheet();
        sheet.put("B2", "=A1+$A$1+SUM(A1:A2)");
        sheet.fill("B2", "B1", "B1");
        Check.same("B1", sheet.refs("B1"), "gone A1 gone gone");
        sheet.fill("B1", "B5", "B5");
        Check.same("B5", sheet.refs("B5"), "gone A1 gone gone");
    }

    private static void badBoxes() {
        int[][] boxes = {
            {-1, 0, 0, 0, 1, 1}, {26, 0, 0, 0, 1, 1}, {0, -1, 0, 0, 1, 1}, {0, 200, 0, 0, 1, 1}, {0, 0, -1, 0, 1, 1},
            {0, 0, 0, -1, 1, 1}, {0, 0, 0, 0, 26, 1}, {0, 0, 0, 0, 1, 200}, {0, 0, 2, 0, 1, 1}, {0, 0, 0, 2, 1, 1},
            {0, 0, 0, 0, Integer.MAX_VALUE, 0}, {0, 0, Integer.MIN_VALUE, 0, 0, 0}
        };
        Sheet sheet = new Sheet();
        sheet.put("A1", "5");
        String before = sheet.counts();
        for (int[] b : boxes) {
            Check.same("box", Sheet.of(() -> sheet.ledger.fill(b[0], b[1], b[2], b[3], b[4], b[5])),
                    "IllegalArgumentException");
        }
        Check.same("counts", sheet.counts(), before);
    }

    private static void limits() {
        Sheet sheet = new Sheet();
        sheet.put("A1", "1");
        sheet.put("Z200", "2");
        String before = sheet.counts();
        Check.same("401", sheet.fill("A1", "A1", "B200"), "IllegalStateException");
        Check.same("the whole sheet", sheet.fill("A1", "A1", "Z200"), "IllegalStateException");
        Check.same("counts", sheet.counts(), before);
        Check.same("B1", sheet.show("B1"), "empty");
        Check.same("400", sheet.fill("A1", "A2", "B200"), "398");
        Check.same("bad goes first", Sheet.of(() -> sheet.ledger.fill(0, 0, 0, 0, 26, 199)), "IllegalArgumentException");
        Sheet full = new Sheet();
        full.put("B1", "1");
        full.fill("B1", "B1", "C199");
        Check.same("too many half way", full.fill("B1", "A1", "A200"), "IllegalStateException");
        Check.same("nothing changed", full.ledger.count(4), 398);
        Check.same("two more", full.fill("B1", "A1", "A2"), "2");
        Check.same("the last row", full.show("C199"), "1");
        Sheet other = new Sheet();
        other.put("A1", "=SUM(C1:Z100)");
        Check.same("2400 nine times", other.fill("A1", "A1", "A9"), "IllegalStateException");
        Check.same("eight times", other.fill("A1", "A1", "A8"), "7");
        other.put("B1", "=SUM(Z1:Y100)");
        Check.same("GONE ones count nothing", other.fill("B1", "C1", "C200"), "208");
    }
}
