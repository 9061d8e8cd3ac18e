/** The boundary cases of what a CELL reads, a test for each: REFS and RANGES that are GONE, ERROR cycle. */
public final class EdgesOfReadingTest {
    public static void main(String[] args) {
        Check.sentence("One that went is GONE: its VALUE is ERROR ref", EdgesOfReadingTest::goneRef);
        Check.sentence("a RANGE that is GONE is an argument that's ERROR ref", EdgesOfReadingTest::goneRange);
        Check.sentence("a REF that is GONE, where r stands", EdgesOfReadingTest::goneRefAsRange);
        Check.sentence("GONE is an ERROR as others: of several the first one", EdgesOfReadingTest::goneAmongErrors);
        Check.sentence("GONE where it's said otherwise", EdgesOfReadingTest::goneNotTaken);
        Check.sentence("GONE in a call that is wrong: that goes before all", EdgesOfReadingTest::goneInWrongCalls);
        Check.sentence("GONE reads nothing", EdgesOfReadingTest::goneReadsNothing);
        Check.sentence("REFS are CELLS and not letters: they follow these", EdgesOfReadingTest::refsFollow);
        Check.sentence("VALUE of a CELL: EMPTY is 0 of a FORMULA", EdgesOfReadingTest::emptyIsZero);
        Check.sentence("VALUES follow all changes: one that reads 199 others", EdgesOfReadingTest::readsMany);
        Check.sentence("If it reads itself: ERROR cycle", EdgesOfReadingTest::readsItself);
        Check.sentence("reads itself wherever it stands", EdgesOfReadingTest::whereverItStands);
        Check.sentence("reads itself in a RANGE: corners, between, beside", EdgesOfReadingTest::inARange);
        Check.sentence("and so on, back to itself: two, three", EdgesOfReadingTest::backToItself);
        Check.sentence("and so on, back to itself: 400", EdgesOfReadingTest::ringOf400);
        Check.sentence("a CELL that reads one, but is not read by it", EdgesOfReadingTest::onlyReadsOne);
        Check.sentence("two cycles beside and through one another", EdgesOfReadingTest::twoCycles);
        Check.sentence("a cycle that ends: by put, fill, erase, undo", EdgesOfReadingTest::cycleEnds);
        Check.sentence("a cycle that comes: by put, fill, insert, redo", EdgesOfReadingTest::cycleComes);
        Check.sentence("no cycle: GONE, SYNTAX, a STRING", EdgesOfReadingTest::noCycle);
        Check.sentence("no cycle: many ways to one CELL", EdgesOfReadingTest::manyWays);
        Check.finish();
    }

    private static Sheet with(String... cellsAndContents) {
        Sheet sheet = new Sheet();
        for (int i = 0; i < cellsAndContents.length; i += 2) {
            sheet.put(cellsAndContents[i], cellsAndContents[i + 1]);
        }
        return sheet;
    }

    /** What a FORMULA is when ROW 5 went; A4 has 4, A6 has 6. */
    private static void behindErase(String formula, String due) {
        Sheet sheet = with("A4", "4", "A6", "6", "K1", "=" + formula);
        sheet.erase(false, 4, 1);
        Check.same(formula, sheet.show("K1"), due);
    }

    private static void goneRef() {
        behindErase("A5", "#ref");
        behindErase("A5+1", "#ref");
        behindErase("-A5", "#ref");
        behindErase("A5%", "#ref");
        behindErase("A5&\"x\"", "#ref");
        behindErase("A5=A5", "#ref");
        behindErase("ABS(A5)", "#ref");
        behindErase("IF(A5,1,2)", "#ref");
        behindErase("CHOOSE(A5,1,2,3)", "#ref");
        behindErase("A4+A6", "10");
    }

    private static void goneRange() {
        String[] calls = {
            "SUM(r)", "PRODUCT(r)", "MIN(r)", "MAX(r)", "AVERAGE(r)", "COUNT(r)", "COUNTA(r)", "ROW(r)", "COLUMN(r)", "ROWS(r)",
            "COLUMNS(r)", "INDEX(r,1,1)", "MATCH(1,r)", "LOOKUP(1,r,1)", "SUMIF(r,1)", "COUNTIF(r,1)"
        };
        for (String call : calls) {
            behindErase(call.replace("r", "A5:B5"), "#ref");
        }
        behindErase("ROWS(A4:A6)", "2");
    }

    private static void goneRefAsRange() {
        behindErase("SUM(A5)", "#ref");
        behindErase("COUNT(A5)", "#ref");
        behindErase("ROW(A5)", "#ref");
        behindErase("COLUMNS(A5)", "#ref");
        behindErase("MATCH(1,A5)", "#ref");
        behindErase("ROW(A6)", "5");
    }

    private static void goneAmongErrors() {
        behindErase("A5+1/0", "#ref");
        behindErase("1/0+A5", "#div");
        behindErase("MATCH(NA(),A5:B5)", "#none");
        behindErase("SUMIF(A5:B5,NA())", "#ref");
        behindErase("LOOKUP(1,A5:B5,NA())", "#ref");
        behindErase("INDEX(A4:A6,1/0,A5)", "#div");
        behindErase("INDEX(A4:A6,A5,1/0)", "#ref");
        behindErase("INDEX(A5:A5,\"x\",1)", "#ref");
    }

    private static void goneNotTaken() {
        behindErase("IF(TRUE,1,A5)", "1");
        behindErase("IF(FALSE,SUM(A5:B5),2)", "2");
        behindErase("CHOOSE(2,A5,7,A5)", "7");
        behindErase("IFERROR(A5,8)", "8");
        behindErase("IFERROR(ROWS(A5:B5),8)", "8");
        behindErase("IFERROR(9,A5)", "9");
        behindErase("ISERROR(A5)", "TRUE");
        behindErase("ISBLANK(A5)", "FALSE");
        behindErase("ISNUMBER(A5)", "FALSE");
        behindErase("ISTEXT(A5)", "FALSE");
    }

    private static void goneInWrongCalls() {
        behindErase("NOSUCH(A5)", "#name");
        behindErase("NOSUCH(A5:B5)", "#name");
        behindErase("ABS(A5:B5)", "#value");
        behindErase("ABS(A5,1)", "#value");
        behindErase("SUM(A5,A5)", "#value");
        behindErase("SUM(A5+1)", "#value");
        behindErase("ISERROR(A5:B5)", "#value");
    }

    private static void goneReadsNothing() {
        Sheet sheet = with("A1", "=ISERROR(B5)", "B6", "=A1");
        sheet.erase(false, 4, 1);
        Check.same("no cycle by what came there", sheet.show("B5") + sheet.show("A1"), "TRUETRUE");
        Sheet ranges = with("A1", "=ISERROR(ROWS(B5:B5))", "B6", "=A1");
        ranges.erase(false, 4, 1);
        Check.same("nor by a RANGE", ranges.show("B5") + ranges.show("A1"), "TRUETRUE");
    }

    private static void refsFollow() {
        Sheet sheet = with("A1", "=B2*10", "B2", "7");
        sheet.insert(false, 1, 1);
        sheet.insert(true, 1, 1);
        Check.same("where it is", sheet.refs("A1") + " " + sheet.show("A1"), "C3 70");
        sheet.put("B2", "8");
        Check.same("not what is at the old place", sheet.show("A1"), "70");
        sheet.put("C3", "9");
        Check.same("but at the new one", sheet.show("A1"), "90");
    }

    private static void emptyIsZero() {
        Check.same("a REF", with("A1", "=B1").show("A1"), "0");
        Check.same("in brackets", with("A1", "=(B1)").show("A1"), "0");
        Check.same("by IF", with("A1", "=IF(TRUE,B1,1)").show("A1"), "0");
        Check.same("by IFERROR", with("A1", "=IFERROR(B1,1)").show("A1"), "0");
        Check.same("by CHOOSE", with("A1", "=CHOOSE(1,B1,1,1)").show("A1"), "0");
        Check.same("by INDEX", with("A1", "=INDEX(B1:B2,2,1)").show("A1"), "0");
        Check.same("by LOOKUP", with("A1", "=LOOKUP(0,B1:C1,2)").show("A1"), "0");
        Check.same("it is a NUMBER for others", with("A1", "=B1", "A2", "=ISBLANK(A1)").show("A2"), "FALSE");
        Check.same("within a FORMULA it is not yet", with("A1", "=ISBLANK(IF(TRUE,B1,1))").show("A1"), "TRUE");
        Check.same("within a FORMULA it is not yet", with("A1", "=INDEX(B1:B2,2,1)&\"\"").show("A1"), "''");
    }

    private static void readsMany() {
        Sheet sheet = with("A1", "=SUM(A2:A200)", "A2", "=$Z$200", "Z1", "=SUM(A2:A200)-A1");
        sheet.fill("A2", "A3", "A200");
        for (String number : new String[] {"1", "2", "3", "4"}) {
            Check.same("Z200 is " + number, sheet.put("Z200", number), "201");
            Check.same("A1", sheet.show("A1"), 199 * Integer.parseInt(number));
            Check.same("Z1", sheet.show("Z1"), 0);
        }
        Sheet some = with("A1", "=A60+A70+A130+A195", "A2", "=$Z$200");
        some.fill("A2", "A3", "A200");
        for (String number : new String[] {"1", "2", "3"}) {
            Check.same("Z200 is " + number, some.put("Z200", number), "201");
            Check.same("four of them", some.show("A1"), 4 * Integer.parseInt(number));
        }
    }

    private static void readsItself() {
        Sheet sheet = with("A1", "=A1");
        Check.same("A1", sheet.show("A1") + sheet.ledger.count(6), "#cycle1");
        Check.same("the first CELL with $", with("A1", "=$A$1+1").show("A1"), "#cycle");
        Check.same("the last CELL", with("Z200", "=Z200").show("Z200"), "#cycle");
        Sheet full = with("A1", "1");
        full.fill("A1", "A1", "B199");
        full.fill("A1", "A200", "A200");
        Check.same("the last of 400", full.put("B200", "=IF(TRUE,5,B200)") + full.show("B200"), "1#cycle");
        Check.same("one of 400", full.put("B100", "=IF(TRUE,5,B100)") + full.show("B100"), "1#cycle");
        Check.same("no other", full.ledger.count(6), 2);
    }

    private static void whereverItStands() {
        String[] formulas = {
            "=IF(TRUE,1,A1)", "=IF(FALSE,A1,1)", "=CHOOSE(1,2,3,A1)", "=IFERROR(1,A1)", "=IFERROR(A1,1)", "=ISERROR(A1)",
            "=ISBLANK(A1)", "=ROW(A1)", "=COLUMN(A1)", "=ROWS(A1)", "=COLUMNS(A1)", "=COUNT(A1)", "=COUNTA(A1)", "=NOSUCH(A1)",
            "=ABS(A1,1)", "=SUM(A1,A1)", "=1/0+A1", "=NA()&A1", "=MATCH(1,A1)", "=NA(A1)"
        };
        for (String formula : formulas) {
            Check.same(formula, with("A1", formula).show("A1"), "#cycle");
        }
    }

    private static void inARange() {
        Check.same("the first corner", with("C3", "=ROWS(C3:D4)").show("C3"), "#cycle");
        Check.same("the last corner", with("C3", "=ROWS(B2:C3)").show("C3"), "#cycle");
        Check.same("another corner", with("C3", "=ROWS(B3:C4)").show("C3"), "#cycle");
        Check.same("between", with("C3", "=ROWS(D4:B2)").show("C3"), "#cycle");
        Check.same("in a call that is wrong", with("C3", "=ABS(B2:D4)").show("C3"), "#cycle");
        Check.same("in its ROW, beside", with("C3", "=COLUMNS(D3:Z3)").show("C3"), "23");
        Check.same("in its COLUMN, beside", with("C3", "=ROWS(C4:C200)").show("C3"), "197");
        Check.same("above", with("C3", "=ROWS(A1:Z2)").show("C3"), "2");
        Check.same("left", with("C3", "=COLUMNS(A1:B200)").show("C3"), "2");
    }

    private static void backToItself() {
        Sheet two = with("A1", "=B1", "B1", "=A1");
        Check.same("two", two.show("A1") + two.show("B1") + two.ledger.count(6), "#cycle#cycle2");
        Sheet three = with("A1", "=B1+1", "B1", "=SUM(C1:C2)", "C2", "=IF(FALSE,A1,7)");
        Check.same("three", three.show("A1") + three.show("B1") + three.show("C2"), "#cycle#cycle#cycle");
        Sheet caught = with("A1", "=IFERROR(B1,1)", "B1", "=IFERROR(A1,2)");
        Check.same("IFERROR is no way out", caught.show("A1") + caught.show("B1"), "#cycle#cycle");
        Sheet four = with("A1", "=IFERROR(B1,1)", "B1", "=IFERROR(C1,2)", "C1", "=IFERROR(D1,3)", "D1", "=IFERROR(A1,4)");
        Check.same("nor of four", four.show("A1") + four.show("B1") + four.show("C1") + four.show("D1"),
                "#cycle#cycle#cycle#cycle");
        four.put("E1", "=IFERROR(B1,5)");
        four.put("D1", "=IFERROR(B1,4)+E1");
        Check.same("nor with a way back to the middle", four.show("A1") + four.ledger.count(6), "14");
    }

    private static void ringOf400() {
        Sheet sheet = with("A1", "=A2", "B1", "=B2");
        sheet.fill("A1", "A1", "A199");
        sheet.fill("B1", "B1", "B199");
        sheet.put("A200", "=B1");
        sheet.put("B200", "5");
        Check.same("399 follow one another", sheet.show("A1") + sheet.ledger.count(6), "50");
        Check.same("all are others", sheet.put("B200", "=A1"), "400");
        Check.same("a ring", sheet.ledger.count(6), 400);
        Check.same("and back", sheet.put("B200", "6"), "400");
        Check.same("A1", sheet.show("A1"), "6");
    }

    private static void onlyReadsOne() {
        Sheet sheet = with("A1", "=A1", "B1", "=A1", "B2", "=IFERROR(A1,7)", "B3", "=ISERROR(A1)", "B4", "=IF(TRUE,8,A1)");
        sheet.put("B5", "=COUNT(A1:A2)");
        sheet.put("B6", "=SUM(A1:A2)");
        sheet.put("B7", "=NA()+A1");
        Check.same("an ERROR as others", sheet.show("B1"), "#cycle");
        Check.same("IFERROR", sheet.show("B2"), "7");
        Check.same("ISERROR", sheet.show("B3"), "TRUE");
        Check.same("not taken", sheet.show("B4"), "8");
        Check.same("not counted", sheet.show("B5"), "0");
        Check.same("in a sum", sheet.show("B6"), "#cycle");
        Check.same("behind another ERROR", sheet.show("B7"), "#none");
    }

    private static void twoCycles() {
        Sheet beside = with("A1", "=B1", "B1", "=A1", "C1", "=D1", "D1", "=C1+A1", "E1", "=IFERROR(D1,1)");
        Check.same("four and one beside", beside.ledger.count(6) + beside.show("E1"), "41");
        beside.put("B1", "5");
        Check.same("the other stays", beside.show("A1") + beside.show("C1") + beside.show("D1"), "5#cycle#cycle");
        Sheet through = with("A1", "=B1", "B1", "=A1+C1", "C1", "=B1");
        Check.same("three", through.ledger.count(6), 3);
        through.put("A1", "1");
        Check.same("two are left", through.show("B1") + through.show("C1") + through.ledger.count(6), "#cycle#cycle2");
    }

    private static void cycleEnds() {
        Sheet sheet = with("A1", "=B2", "B2", "=A1");
        Check.same("put", sheet.put("B2", "5") + sheet.show("A1"), "25");
        Check.same("its undo", sheet.undo() + sheet.show("A1"), "2#cycle");
        Check.same("fill", sheet.fill("Z9", "B2", "B2") + sheet.show("A1"), "20");
        sheet.undo();
        Check.same("erase", sheet.erase(false, 1, 1) + sheet.show("A1"), "2#ref");
        sheet.undo();
        Check.same("undo of what made it", sheet.undo() + sheet.show("A1") + sheet.ledger.count(6), "200");
    }

    private static void cycleComes() {
        Sheet sheet = with("A1", "=B1", "C2", "=B2");
        Check.same("put", sheet.put("B1", "=A1") + sheet.ledger.count(6), "22");
        sheet.undo();
        Check.same("redo", sheet.redo() + sheet.ledger.count(6), "22");
        Check.same("fill", sheet.put("D4", "=D5") + sheet.fill("D4", "D5", "D5") + sheet.ledger.count(6), "112");
        Sheet filled = with("A1", "=B1", "D1", "=C1");
        Check.same("fill", filled.fill("D1", "B1", "B1") + filled.show("B1") + filled.show("A1"), "2#cycle#cycle");
        Sheet range = with("B3", "=ROWS(A2:A3)", "A1", "=B3");
        range.insert(false, 1, 1);
        Check.same("none by insert above a RANGE", range.show("B4") + range.refs("B4"), "2A3 A4");
        range.erase(false, 2, 1);
        range.put("A3", "=B3");
        Check.same("in what is left of it", range.show("B3") + range.refs("B3"), "#cycleA3 A3");
    }

    private static void noCycle() {
        Sheet gone = with("B2", "=A1+B1");
        gone.fill("B2", "A2", "A2");
        Check.same("GONE", gone.refs("A2") + " " + gone.show("A2"), "gone A1 #ref");
        Check.same("SYNTAX", with("A1", "=A1+").show("A1"), "#syntax");
        Check.same("a STRING", with("A1", "=\"A1\"").show("A1"), "'A1'");
        Check.same("a TEXT", with("A1", "A1").show("A1"), "'A1'");
    }

    private static void manyWays() {
        Sheet sheet = with("A1", "1", "B1", "=A1+A1", "C1", "=A1+B1", "D1", "=A1+B1+C1+SUM(A1:C1)");
        Check.same("D1", sheet.show("D1") + sheet.ledger.count(6), "120");
        Check.same("each is told once", sheet.put("A1", "2") + sheet.changes(), "4A1 B1 C1 D1");
        Sheet down = with("A200", "1", "A199", "=SUM(A200:A$200)%+1");
        down.fill("A199", "A1", "A198");
        Check.same("each reads all below it", down.show("A199") + " " + down.show("A100") + " " + down.show("A1"), "1 2 4");
        Check.same("none reads itself", down.ledger.count(6), 0);
        Sheet up = with("A1", "1", "A2", "=SUM(A$1:A1)%+1");
        up.fill("A2", "A3", "A199");
        Check.same("each reads all above it", up.show("A2") + " " + up.show("A101") + " " + up.show("A199"), "1 2 4");
    }
}
