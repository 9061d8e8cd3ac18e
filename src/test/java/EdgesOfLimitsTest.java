/** The boundary cases of the limits and of refused calls, a test for each. */
public final class EdgesOfLimitsTest {
    private static final String BAD = "IllegalArgumentException";
    private static final String REFUSED = "IllegalStateException";
    private static final String NOT_THERE = "NoSuchElementException";

    public static void main(String[] args) {
        Check.sentence("more than 400 CELLS would have CONTENTS: by put", EdgesOfLimitsTest::cellsByPut);
        Check.sentence("more than 400 CELLS would have CONTENTS: by fill", EdgesOfLimitsTest::cellsByFill);
        Check.sentence("400 CELLS: what does not add one is done", EdgesOfLimitsTest::cellsNotAdded);
        Check.sentence("400 CELLS: as many as are left, again", EdgesOfLimitsTest::cellsLess);
        Check.sentence("400 CELLS move by insert and erase", EdgesOfLimitsTest::cellsMove);
        Check.sentence("400 CELLS come back by undo and redo", EdgesOfLimitsTest::cellsComeBack);
        Check.sentence("more than 20000 CELLS of RANGES: by put", EdgesOfLimitsTest::rangesByPut);
        Check.sentence("20000: the RANGES in one FORMULA together", EdgesOfLimitsTest::rangesInOne);
        Check.sentence("20000: one in several of them as often", EdgesOfLimitsTest::rangesAsOften);
        Check.sentence("20000: wherever they stand", EdgesOfLimitsTest::rangesWherever);
        Check.sentence("20000: wherever their CELLS are", EdgesOfLimitsTest::rangesAnywhere);
        Check.sentence("20000: REFS, SYNTAX and what is GONE have none", EdgesOfLimitsTest::rangesThatAreNone);
        Check.sentence("20000: by fill", EdgesOfLimitsTest::rangesByFill);
        Check.sentence("20000: by insert", EdgesOfLimitsTest::rangesByInsert);
        Check.sentence("20000: less by put and erase", EdgesOfLimitsTest::rangesLess);
        Check.sentence("A refused call changes nothing: put", EdgesOfLimitsTest::refusedPut);
        Check.sentence("but put empties INPUT all the same", EdgesOfLimitsTest::putEmptiesInput);
        Check.sentence("others leave INPUT", EdgesOfLimitsTest::othersLeaveInput);
        Check.sentence("A refused call changes nothing: what follows it", EdgesOfLimitsTest::whatFollows);
        Check.sentence("Of two exceptions the one that a call names first: put", EdgesOfLimitsTest::twoOfPut);
        Check.sentence("Of two exceptions the one that a call names first: fill", EdgesOfLimitsTest::twoOfFill);
        Check.sentence("Of two exceptions the one that a call names first: insert", EdgesOfLimitsTest::twoOfInsert);
        Check.sentence("Of two exceptions the one that a call names first: letter", EdgesOfLimitsTest::twoOfLetter);
        Check.sentence("Of two exceptions the one that a call names first: reference", EdgesOfLimitsTest::twoOfReference);
        Check.sentence("512 calls of the dearest kind", EdgesOfLimitsTest::manyCalls);
        Check.finish();
    }

    /** 400 CELLS, A1 to B200, with 1 each. */
    private static Sheet full() {
        Sheet sheet = new Sheet();
        sheet.put("A1", "1");
        sheet.fill("A1", "A1", "B200");
        return sheet;
    }

    private static void cellsByPut() {
        Sheet sheet = new Sheet();
        sheet.put("A1", "1");
        sheet.fill("A1", "A1", "B199");
        Check.same("399", sheet.put("A200", "1"), "1");
        Check.same("400", sheet.put("B200", "x"), "1");
        Check.same("a NUMBER more", sheet.put("C1", "1"), REFUSED);
        Check.same("a TEXT more", sheet.put("Z200", "x"), REFUSED);
        Check.same("a FORMULA more", sheet.put("C1", "=1"), REFUSED);
        Check.same("SYNTAX more", sheet.put("C1", "=1+"), REFUSED);
        Check.same("400 still", sheet.ledger.count(4), 400);
    }

    private static void cellsByFill() {
        Sheet sheet = new Sheet();
        sheet.put("A1", "1");
        Check.same("400 of 400", sheet.fill("A1", "A1", "B200"), "399");
        sheet.undo();
        Check.same("401", sheet.fill("A1", "B1", "C200"), REFUSED);
        Check.same("5200", sheet.fill("A1", "A1", "Z200"), REFUSED);
        Check.same("400 and the CELL among them", sheet.fill("A1", "A1", "T20"), "399");
        Check.same("a row more", sheet.fill("A1", "A21", "T21"), REFUSED);
        Check.same("one more", sheet.fill("A1", "Z200", "Z200"), REFUSED);
    }

    private static void cellsNotAdded() {
        Sheet sheet = full();
        Check.same("another CONTENT", sheet.put("A1", "2"), "1");
        Check.same("a FORMULA", sheet.put("B200", "=A1"), "1");
        Check.same("nothing on nothing", sheet.put("C1", ""), "0");
        Check.same("fill among them", sheet.fill("A1", "A1", "B100"), "199");
        Check.same("fill of nothing", sheet.fill("C1", "D1", "Z200"), "0");
    }

    private static void cellsLess() {
        Sheet sheet = full();
        sheet.put("A1", "");
        Check.same("399", sheet.ledger.count(4), 399);
        Check.same("one more", sheet.put("C1", "1"), "1");
        Check.same("and no more", sheet.put("C2", "1"), REFUSED);
        sheet.fill("Z1", "A1", "A50");
        Check.same("351", sheet.ledger.count(4), 351);
        Check.same("49 more", sheet.fill("C1", "D1", "D49"), "49");
        Check.same("and no more", sheet.fill("C1", "D50", "D50"), REFUSED);
        sheet.erase(false, 199, 1);
        Check.same("two went", sheet.ledger.count(4), 398);
        Check.same("two more", sheet.fill("C1", "E1", "F1"), "2");
    }

    private static void cellsMove() {
        Sheet sheet = full();
        Check.same("insert", sheet.insert(true, 1, 24), "400");
        Check.same("400", sheet.ledger.count(4), 400);
        Check.same("no ROW more", sheet.insert(false, 0, 1), REFUSED);
        Check.same("erase", sheet.erase(true, 1, 24), "400");
        Check.same("400", sheet.ledger.count(4), 400);
    }

    private static void cellsComeBack() {
        Sheet sheet = full();
        sheet.fill("Z1", "A1", "B200");
        sheet.put("C1", "1");
        sheet.undo();
        Check.same("undo", sheet.undo(), "400");
        Check.same("redo", sheet.redo(), "400");
        Check.same("undo", sheet.undo() + " " + sheet.ledger.count(4), "400 400");
        Check.same("no more then", sheet.put("C1", "1"), REFUSED);
        Check.same("redo is still there", sheet.redo() + sheet.redo() + sheet.show("C1"), "40011");
    }

    /** RANGES of 19999 CELLS in A1. */
    private static Sheet almost() {
        Sheet sheet = new Sheet();
        String three = "ROWS(B1:Z200)+ROWS(B1:Z200)+ROWS(B1:Z200)";
        Check.same("19999", sheet.put("A1", "=" + three + "+ROWS(B1:Z199)+ROWS(B1:Y1)"), "1");
        return sheet;
    }

    private static void rangesByPut() {
        Sheet sheet = almost();
        Check.same("two", sheet.put("A2", "=ROWS(B1:C1)"), REFUSED);
        Check.same("one", sheet.put("A2", "=ROWS(B1:B1)"), "1");
        Check.same("one more", sheet.put("A3", "=ROWS(B1:B1)"), REFUSED);
        Check.same("instead", sheet.put("A2", "=SUM(C1:C1)"), "1");
        Check.same("instead, two", sheet.put("A2", "=SUM(C1:C2)"), REFUSED);
    }

    private static void rangesInOne() {
        Sheet sheet = new Sheet();
        String whole = "ROWS(B1:Z200)";
        Check.same("20000", sheet.put("A1", "=" + whole + ("+" + whole).repeat(3)), "1");
        Check.same("20001", sheet.put("A1", "=" + whole + ("+" + whole).repeat(3) + "+ROWS(B1:B1)"), REFUSED);
        Check.same("20800", new Sheet().put("A1", "=ROWS(A1:Z200)" + "+ROWS(A1:Z200)".repeat(3)), REFUSED);
        Check.same("corners in any order",
                new Sheet().put("A1", "=ROWS(Z200:A1)+ROWS(A200:Z1)+ROWS(Z1:A200)+ROWS(A1:Z200)"), REFUSED);
    }

    private static void rangesAsOften() {
        Sheet sheet = new Sheet();
        for (int i = 1; i <= 4; i++) {
            Check.same("5000 each", sheet.put("A" + i, "=ROWS(B1:Z200)"), "1");
        }
        Check.same("the same once more", sheet.put("A5", "=ROWS(B1:Z200)"), REFUSED);
        Check.same("a part of it", sheet.put("A5", "=ROWS(C5:C5)"), REFUSED);
        Check.same("none", sheet.put("A5", "=ROWS(C5)"), "1");
    }

    private static void rangesWherever() {
        String[] formulas = {
            "=IF(TRUE,1,ROWS(C1:C2))", "=NOSUCH(C1:C2)", "=ABS(C1:C2)", "=SUM(C1:C2,1)", "=IFERROR(1,SUM(C1:C2))",
            "=1/0+SUM(C1:C2)", "=ISERROR(C1:C2)"
        };
        for (String formula : formulas) {
            Check.same(formula, almost().put("A2", formula), REFUSED);
        }
    }

    private static void rangesAnywhere() {
        for (String range : new String[] {"N101:Z200", "Z200:N101", "N200:Z101", "Z101:N200"}) {
            Sheet sheet = new Sheet();
            sheet.put("A1", "=ROWS(" + range.replace("N", "$N$").replace("Z", "$Z$") + ")");
            Check.same("15 times 1300 by " + range, sheet.fill("A1", "A1", "A15"), "14");
            Check.same("and 500", sheet.put("B1", "=ROWS(N101:N200)+ROWS(Q50:Z89)"), "1");
            Check.same("and one", sheet.put("B2", "=ROWS(Z200:Z200)"), REFUSED);
        }
    }

    private static void rangesThatAreNone() {
        Sheet sheet = almost();
        Check.same("REFS", sheet.put("A2", "=B1+B2+SUM(B3)+ROWS(B4)"), "1");
        Check.same("SYNTAX", sheet.put("A3", "=ROWS(C1:D9)+"), "1");
        Check.same("a TEXT", sheet.put("A4", "ROWS(C1:D9)"), "1");
        Sheet other = new Sheet();
        other.put("B2", "=ROWS(A1:Y200)");
        other.fill("B2", "A3", "A3");
        Check.same("GONE", other.refs("A3"), "gone gone");
        Check.same("GONE as often", other.fill("A3", "A3", "A200"), "197");
    }

    private static void rangesByFill() {
        Sheet sheet = almost();
        sheet.put("A2", "=ROWS(B1:B1)");
        Check.same("20000 and one", sheet.fill("A2", "A3", "A3"), REFUSED);
        Check.same("itself", sheet.fill("A2", "A2", "A2"), "0");
        Sheet other = new Sheet();
        other.put("A1", "=ROWS($B$1:$Z$2)");
        Check.same("200 times 50", other.fill("A1", "A1", "A200"), "199");
        Check.same("400 times 50", other.fill("A1", "C3", "C200") + other.fill("A1", "D3", "D4"), "1982");
        Check.same("and one", other.put("A1", "=ROWS($B$1:$B$51)"), REFUSED);
    }

    private static void rangesByInsert() {
        Sheet sheet = almost();
        Check.same("a ROW in them", sheet.insert(false, 190, 1), REFUSED);
        Check.same("a COLUMN in them", sheet.insert(true, 10, 1), "0");
        Check.same("they ended with the SHEET", sheet.refs("A1").endsWith("B1 Z199 B1 Z1"), true);
        Check.same("20000", sheet.put("A2", "=1"), "1");
        Check.same("one more", sheet.put("A3", "=ROWS(B1:B1)"), REFUSED);
    }

    private static void rangesLess() {
        Sheet sheet = almost();
        sheet.erase(false, 199, 1);
        Check.same("75 less", sheet.put("A2", "=ROWS(B1:B76)"), "1");
        Check.same("and no more", sheet.put("A3", "=ROWS(B1:B1)"), REFUSED);
        sheet.put("A2", "=1");
        Check.same("as many again", sheet.put("A3", "=ROWS(B1:B76)"), "1");
        sheet.undo();
        sheet.undo();
        Check.same("undo brings them back", sheet.put("A3", "=ROWS(B1:B1)"), REFUSED);
    }

    private static void refusedPut() {
        Sheet sheet = almost();
        sheet.put("A2", "=A1");
        sheet.put("A3", "7");
        sheet.undo();
        String before = sheet.picture("A1", "A2", "A3");
        Check.same("on a CELL with CONTENT", sheet.put("A2", "=ROWS(B1:C1)"), REFUSED);
        Check.same("on a CELL with nothing", sheet.put("A3", "=ROWS(B1:C1)"), REFUSED);
        Check.same("all as before", sheet.picture("A1", "A2", "A3"), before);
        Check.same("redo is still there", sheet.redo() + sheet.show("A3"), "17");
        Check.same("undo, too", sheet.undo() + sheet.undo() + sheet.undo() + sheet.undo(), "111" + REFUSED);
    }

    private static void putEmptiesInput() {
        Sheet sheet = full();
        sheet.type("abc");
        Check.same("refused", Sheet.of(() -> sheet.ledger.put(2, 0)), REFUSED);
        Check.same("length", sheet.ledger.count(0), 0);
        sheet.type("abc");
        Check.same("bad", Sheet.of(() -> sheet.ledger.put(26, 0)), BAD);
        Check.same("length", sheet.ledger.count(0), 0);
    }

    private static void othersLeaveInput() {
        Sheet sheet = full();
        sheet.type("abc");
        Check.same("fill", sheet.fill("A1", "C1", "C1"), REFUSED);
        Check.same("bad fill", Sheet.of(() -> sheet.ledger.fill(0, 0, 1, 0, 0, 0)), BAD);
        Check.same("insert", sheet.insert(false, 0, 1), REFUSED);
        Check.same("bad insert", sheet.insert(false, 0, 0), BAD);
        Check.same("bad erase", sheet.erase(false, 0, 0), BAD);
        Check.same("redo", sheet.redo(), REFUSED);
        sheet.undo();
        sheet.undo();
        Check.same("undo", sheet.undo(), REFUSED);
        Check.same("bad end", Sheet.of(() -> sheet.ledger.end(4)), BAD);
        Check.same("length", sheet.ledger.count(0), 3);
        sheet.ledger.put(0, 0);
        Check.same("its bytes", sheet.show("A1"), "'abc'");
    }

    /** An EDIT behind refused ones does as if they had not been. */
    private static void whatFollows() {
        Sheet one = full();
        Sheet other = full();
        other.fill("A1", "C1", "D200");
        other.insert(false, 3, 1);
        other.put("C1", "=A1+B2");
        other.put("C1", "=A1+" + "x".repeat(240 - 4));
        other.fill("A1", "A1", "Z200");
        for (Sheet sheet : new Sheet[] {one, other}) {
            sheet.put("A5", "=SUM(A1:A4)+B6");
            sheet.fill("A5", "A6", "A7");
            sheet.erase(false, 0, 1);
        }
        Check.same("all the same", other.picture("A4", "A5", "A6", "B199", "B200"),
                one.picture("A4", "A5", "A6", "B199", "B200"));
    }

    private static void twoOfPut() {
        Sheet sheet = full();
        sheet.type("x".repeat(65));
        Check.same("bad INPUT, and no room", Sheet.of(() -> sheet.ledger.put(2, 0)), BAD);
        sheet.type("1");
        Check.same("bad place, and no room", Sheet.of(() -> sheet.ledger.put(26, 0)), BAD);
        sheet.type("1");
        Check.same("no room", Sheet.of(() -> sheet.ledger.put(2, 0)), REFUSED);
    }

    private static void twoOfFill() {
        Sheet sheet = full();
        Check.same("bad box, and no room", Sheet.of(() -> sheet.ledger.fill(0, 0, 0, 0, 26, 199)), BAD);
        Check.same("turned box, and no room", Sheet.of(() -> sheet.ledger.fill(0, 0, 3, 0, 2, 199)), BAD);
        Check.same("no room", Sheet.of(() -> sheet.ledger.fill(0, 0, 2, 0, 25, 199)), REFUSED);
    }

    private static void twoOfInsert() {
        Sheet sheet = full();
        Check.same("bad n, and CONTENTS would leave", sheet.insert(false, 0, 51), BAD);
        Check.same("bad i, and CONTENTS would leave", sheet.insert(false, -1, 1), BAD);
        Check.same("CONTENTS would leave", sheet.insert(false, 0, 50), REFUSED);
    }

    private static void twoOfLetter() {
        GridLedger ledger = new GridLedger();
        Check.same("bad COLUMN, and not there", Sheet.of(() -> ledger.letter(26, 0, -1)), BAD);
        Check.same("bad ROW, and not there", Sheet.of(() -> ledger.letter(0, 200, 64)), BAD);
        Check.same("not there", Sheet.of(() -> ledger.letter(25, 199, 0)), NOT_THERE);
    }

    private static void twoOfReference() {
        GridLedger ledger = new GridLedger();
        Check.same("bad COLUMN, and not there", Sheet.of(() -> ledger.reference(-1, 0, -1)), BAD);
        Check.same("bad ROW, and not there", Sheet.of(() -> ledger.reference(0, -1, 50)), BAD);
        Check.same("not there", Sheet.of(() -> ledger.reference(25, 199, 0)), NOT_THERE);
    }

    /** All bytes that 512 calls can feed, in FORMULAS of as many REFS as there can be. */
    private static void manyCalls() {
        Sheet sheet = new Sheet();
        String formula = "=A1" + "+A1".repeat(49);
        for (int i = 0; i < 50; i++) {
            sheet.put("B" + (i + 1), formula);
        }
        Check.same("50 FORMULAS of 50 REFS", sheet.ledger.count(5), 50);
        Check.same("and 150 more", sheet.fill("B50", "B51", "B200"), "150");
        Check.same("and 199 more", sheet.fill("B50", "C1", "C199"), "199");
        Check.same("who reads A1, and who reads these", sheet.put("A1", "1"), "101");
        Check.same("undone and done again", sheet.undo() + " " + sheet.redo(), "101 101");
    }
}
