/** Promises 4 to 10 and 15: CELLS that read themselves, and an order of working out that follows what is read. */
public final class CyclesTest {
    public static void main(String[] args) {
        itself();
        severalTogether();
        notTaken();
        besideACycle();
        longChain();
        byInsertAndErase();
        Check.finish();
    }

    private static void itself() {
        String[] formulas = {
            "=A1", "=A1+1", "=SUM(A1:B2)", "=SUM(A1)", "=ROWS(A1:A3)", "=ROW(A1)", "=IF(TRUE,1,A1)", "=IFERROR(A1,5)",
            "=ISERROR(A1)", "=NOSUCH(A1)", "=ABS(1,A1)", "=CHOOSE(1,2,3,A1)", "=COUNT(B2:A1)", "=ISBLANK($A$1)"
        };
        for (String formula : formulas) {
            Sheet sheet = new Sheet();
            Check.same(formula, sheet.worth("A1", formula), "#cycle");
            Check.same(formula + " count", sheet.ledger.count(6), 1);
        }
        Sheet sheet = new Sheet();
        Check.same("a SYNTAX has no REFS", sheet.worth("A1", "=A1+"), "#syntax");
        Check.same("a RANGE beside", sheet.worth("A1", "=SUM(A2:B3)"), "0");
    }

    private static void severalTogether() {
        Sheet sheet = new Sheet();
        sheet.put("A1", "=B1");
        sheet.put("B1", "=C1");
        Check.same("C1", sheet.put("C1", "=A1"), "3");
        Check.same("two cycles", sheet.put("D1", "=E1"), "1");
        sheet.put("E1", "=D1+A1");
        Check.same("counts", sheet.ledger.count(6), 5);
        Check.same("break one", sheet.put("C1", "7"), "3");
        Check.same("A1", sheet.show("A1"), "7");
        Check.same("E1", sheet.show("E1"), "#cycle");
        Check.same("break the other", sheet.put("D1", "1"), "2");
        Check.same("E1", sheet.show("E1"), "8");
        Check.same("none", sheet.ledger.count(6), 0);
        sheet.undo();
        Check.same("again", sheet.ledger.count(6), 2);
    }

    private static void notTaken() {
        Sheet sheet = new Sheet();
        sheet.put("A1", "=IF(TRUE,5,B1)");
        Check.same("A1", sheet.show("A1"), "5");
        sheet.put("B1", "=A1");
        Check.same("A1", sheet.show("A1"), "#cycle");
        Check.same("B1", sheet.show("B1"), "#cycle");
    }

    private static void besideACycle() {
        Sheet sheet = new Sheet();
        sheet.put("A1", "=A1");
        String[][] readers = {
            {"=A1", "#cycle"}, {"=A1+1", "#cycle"}, {"=IFERROR(A1,7)", "7"}, {"=ISERROR(A1)", "TRUE"},
            {"=IF(TRUE,1,A1)", "1"}, {"=COUNT(A1:A2)", "0"}, {"=COUNTA(A1:A2)", "1"}, {"=SUM(A1:A2)", "#cycle"},
            {"=ROWS(A1:A2)", "2"}, {"=1/0+A1", "#div"}, {"=A1+1/0", "#cycle"}, {"=COUNTIF(A1:A2,0)", "1"}
        };
        for (int i = 0; i < readers.length; i++) {
            Check.same(readers[i][0], sheet.worth("B" + (i + 1), readers[i][0]), readers[i][1]);
        }
        Check.same("count", sheet.ledger.count(6), 5);
    }

    private static void longChain() {
        Sheet sheet = new Sheet();
        sheet.put("A199", "=A200+1");
        sheet.fill("A199", "A1", "A198");
        sheet.put("B1", "=A1+1");
        sheet.put("A200", "0");
        Check.same("A1", sheet.show("A1"), "199");
        sheet.put("B2", "=B1+1");
        sheet.fill("B2", "B3", "B200");
        Check.same("B200", sheet.show("B200"), "399");
        Check.same("all 400 follow", sheet.put("A200", "1"), "400");
        Check.same("B200", sheet.show("B200"), "400");
        Check.same("one ring", sheet.put("A200", "=B200"), "400");
        Check.same("all", sheet.ledger.count(6), 400);
        Check.same("undone", sheet.undo(), "400");
        Sheet selves = new Sheet();
        selves.put("A1", "=A1");
        selves.put("B1", "=A1");
        selves.fill("A1", "A2", "A199");
        Check.same("each itself", selves.ledger.count(6), 200);
        Check.same("A199", selves.show("A199"), "#cycle");
        Sheet dense = new Sheet();
        dense.put("A1", "1");
        dense.put("A2", "=SUM(A$1:A1)%+1");
        Check.same("each reads all before it", dense.fill("A2", "A3", "A199"), "197");
        Check.same("A2", dense.show("A2"), "1");
        Check.same("A101", dense.show("A101"), "2");
    }

    private static void byInsertAndErase() {
        Sheet sheet = new Sheet();
        sheet.put("A1", "=SUM(B1:B3)");
        sheet.put("B3", "=A1");
        Check.same("a cycle", sheet.ledger.count(6), 2);
        sheet.erase(false, 2, 1);
        Check.same("none", sheet.ledger.count(6), 0);
        sheet.undo();
        Check.same("a cycle", sheet.ledger.count(6), 2);
        sheet.put("B3", "=A2");
        sheet.fill("A1", "A2", "A2");
        Check.same("fill makes one", sheet.show("A2"), "#cycle");
        Check.same("and who reads it", sheet.show("A1"), "#cycle");
    }
}
