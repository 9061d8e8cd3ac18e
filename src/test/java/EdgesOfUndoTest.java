/** The boundary cases of promises 8 and 9, a test for each: undo and redo. */
public final class EdgesOfUndoTest {
    private static final String REFUSED = "IllegalStateException";

    public static void main(String[] args) {
        Check.sentence("undo: None: REFUSED: a new object", EdgesOfUndoTest::undoOfNone);
        Check.sentence("undo: None: REFUSED: all are UNDONE", EdgesOfUndoTest::undoOfNoneMore);
        Check.sentence("a refused undo changes nothing", EdgesOfUndoTest::refusedUndo);
        Check.sentence("redo: None: REFUSED: none was UNDONE", EdgesOfUndoTest::redoOfNone);
        Check.sentence("redo: None: REFUSED: all are done again", EdgesOfUndoTest::redoOfNoneMore);
        Check.sentence("a refused redo changes nothing", EdgesOfUndoTest::refusedRedo);
        Check.sentence("at most 40 of them: 40 EDITS", EdgesOfUndoTest::forty);
        Check.sentence("at most 40 of them: 41 EDITS", EdgesOfUndoTest::fortyOne);
        Check.sentence("at most 40 of them: round and round", EdgesOfUndoTest::roundAndRound);
        Check.sentence("40 can be done again", EdgesOfUndoTest::fortyAgain);
        Check.sentence("an EDIT behind 40 undos: the oldest stay", EdgesOfUndoTest::editBehindForty);
        Check.sentence("the latest first", EdgesOfUndoTest::latestFirst);
        Check.sentence("EDITS are put, fill, insert, erase: each is UNDONE", EdgesOfUndoTest::eachIsUndone);
        Check.sentence("done again by redo, if no EDIT was done since", EdgesOfUndoTest::noneSince);
        Check.sentence("an EDIT done since that changes nothing", EdgesOfUndoTest::emptyEditSince);
        Check.sentence("a refused or bad EDIT is none that was done", EdgesOfUndoTest::refusedSince);
        Check.sentence("feed, end and questions are no EDITS", EdgesOfUndoTest::noEditsSince);
        Check.sentence("undo and redo are no EDITS", EdgesOfUndoTest::undoIsNoEdit);
        Check.sentence("Answers how many are CHANGED: none", EdgesOfUndoTest::noneChanged);
        Check.sentence("INPUT is no part of what is UNDONE", EdgesOfUndoTest::inputStays);
        Check.finish();
    }

    private static Sheet numbered(int edits) {
        Sheet sheet = new Sheet();
        for (int i = 1; i <= edits; i++) {
            sheet.put("A1", String.valueOf(i));
        }
        return sheet;
    }

    private static void undoAll(Sheet sheet, int many) {
        for (int i = 0; i < many; i++) {
            Check.same("undo " + i, sheet.undo(), "1");
        }
    }

    private static void undoOfNone() {
        Check.same("undo", new Sheet().undo(), REFUSED);
    }

    private static void undoOfNoneMore() {
        Sheet sheet = numbered(2);
        undoAll(sheet, 2);
        Check.same("undo", sheet.undo(), REFUSED);
        sheet.redo();
        Check.same("one again", sheet.undo(), "1");
        Check.same("undo", sheet.undo(), REFUSED);
    }

    private static void refusedUndo() {
        Sheet sheet = numbered(2);
        sheet.type("abc");
        undoAll(sheet, 2);
        String before = sheet.picture("A1");
        Check.same("undo", sheet.undo(), REFUSED);
        Check.same("all as before", sheet.picture("A1"), before);
        Check.same("redo is still there", sheet.redo() + sheet.redo() + sheet.show("A1"), "112");
    }

    private static void redoOfNone() {
        Check.same("a new object", new Sheet().redo(), REFUSED);
        Check.same("an EDIT that is not UNDONE", numbered(1).redo(), REFUSED);
    }

    private static void redoOfNoneMore() {
        Sheet sheet = numbered(2);
        undoAll(sheet, 2);
        Check.same("two", sheet.redo() + sheet.redo(), "11");
        Check.same("redo", sheet.redo(), REFUSED);
    }

    private static void refusedRedo() {
        Sheet sheet = numbered(2);
        sheet.type("abc");
        String before = sheet.picture("A1");
        Check.same("redo", sheet.redo(), REFUSED);
        Check.same("all as before", sheet.picture("A1"), before);
        Check.same("undo is still there", sheet.undo() + sheet.show("A1"), "11");
    }

    private static void forty() {
        Sheet sheet = numbered(40);
        Check.same("can be UNDONE", sheet.ledger.count(2), 40);
        undoAll(sheet, 40);
        Check.same("all of them", sheet.show("A1"), "empty");
        Check.same("none more", sheet.undo(), REFUSED);
    }

    private static void fortyOne() {
        Sheet sheet = numbered(41);
        Check.same("can be UNDONE", sheet.ledger.count(2), 40);
        undoAll(sheet, 40);
        Check.same("all but the first", sheet.show("A1"), "1");
        Check.same("none more", sheet.undo(), REFUSED);
        Check.same("can be done again", sheet.ledger.count(3), 40);
    }

    private static void roundAndRound() {
        Sheet sheet = numbered(130);
        undoAll(sheet, 40);
        Check.same("A1", sheet.show("A1"), "90");
        Check.same("none more", sheet.undo(), REFUSED);
    }

    private static void fortyAgain() {
        Sheet sheet = numbered(60);
        undoAll(sheet, 40);
        for (int i = 21; i <= 60; i++) {
            Check.same("redo", sheet.redo(), "1");
            Check.same("A1", sheet.show("A1"), i);
        }
        Check.same("none more", sheet.redo(), REFUSED);
        Check.same("can be UNDONE", sheet.ledger.count(2), 40);
    }

    private static void editBehindForty() {
        Sheet sheet = numbered(50);
        undoAll(sheet, 40);
        sheet.put("A1", "x");
        Check.same("counts", sheet.ledger.count(2) + " " + sheet.ledger.count(3), "1 0");
        Check.same("that one", sheet.undo() + sheet.show("A1"), "110");
        Check.same("none more", sheet.undo(), REFUSED);
        Sheet some = numbered(50);
        undoAll(some, 5);
        some.put("A1", "x");
        Check.same("35 and one", some.ledger.count(2), 36);
        undoAll(some, 36);
        Check.same("A1", some.show("A1"), "10");
        Check.same("none more", some.undo(), REFUSED);
    }

    private static void latestFirst() {
        Sheet sheet = new Sheet();
        sheet.put("A1", "1");
        sheet.put("B1", "2");
        sheet.put("A1", "3");
        Check.same("the third", sheet.undo() + sheet.changes() + sheet.show("A1"), "1A11");
        Check.same("the second", sheet.undo() + sheet.changes() + sheet.show("B1"), "1B1empty");
        Check.same("the second again", sheet.redo() + sheet.changes() + sheet.show("B1"), "1B12");
        Check.same("the third again", sheet.redo() + sheet.changes() + sheet.show("A1"), "1A13");
    }

    private static void eachIsUndone() {
        Sheet sheet = new Sheet();
        sheet.put("B2", "=A1+SUM(A1:B1)");
        sheet.put("A1", "5");
        String[] states = new String[5];
        states[0] = sheet.show("B2") + sheet.refs("B2");
        sheet.put("B2", "=A1+A1");
        states[1] = sheet.show("B2") + sheet.refs("B2");
        sheet.fill("B2", "B1", "C2");
        states[2] = sheet.show("B2") + sheet.refs("C2");
        sheet.insert(false, 1, 1);
        states[3] = sheet.show("B3") + sheet.refs("C3");
        sheet.erase(true, 0, 1);
        states[4] = sheet.show("A3") + sheet.refs("B3");
        Check.same("states", String.join(", ", states), "10A1 A1 B1, 10A1 A1, 10B1 B1, 10B1 B1, #refA1 A1");
        Check.same("erase", sheet.undo() + sheet.show("B3") + sheet.refs("C3"), "5" + states[3]);
        Check.same("insert", sheet.undo() + sheet.show("B2") + sheet.refs("C2"), "4" + states[2]);
        Check.same("fill", sheet.undo() + sheet.show("B2") + sheet.show("C2"), "310empty");
        Check.same("put", sheet.undo() + sheet.show("B2") + sheet.refs("B2"), "0" + states[0]);
        Check.same("put again", sheet.redo() + sheet.show("B2") + sheet.refs("B2"), "0" + states[1]);
        Check.same("fill again", sheet.redo() + sheet.show("B2") + sheet.refs("C2"), "3" + states[2]);
        Check.same("insert again", sheet.redo() + sheet.show("B3") + sheet.refs("C3"), "4" + states[3]);
        Check.same("erase again", sheet.redo() + sheet.show("A3") + sheet.refs("B3"), "5" + states[4]);
    }

    /** With one EDIT that can be done again. */
    private static Sheet undone() {
        Sheet sheet = new Sheet();
        sheet.put("A1", "1");
        sheet.put("A1", "2");
        sheet.undo();
        return sheet;
    }

    private static void noneSince() {
        Sheet put = undone();
        put.put("B1", "3");
        Check.same("put", put.ledger.count(3) + put.redo() + put.show("A1"), "0" + REFUSED + "1");
        Sheet fill = undone();
        fill.fill("A1", "B1", "B1");
        Check.same("fill", fill.ledger.count(3) + fill.redo() + fill.show("A1"), "0" + REFUSED + "1");
        Sheet insert = undone();
        insert.insert(true, 1, 1);
        Check.same("insert", insert.ledger.count(3) + insert.redo() + insert.show("A1"), "0" + REFUSED + "1");
        Sheet erase = undone();
        erase.erase(true, 1, 1);
        Check.same("erase", erase.ledger.count(3) + erase.redo() + erase.show("A1"), "0" + REFUSED + "1");
        erase.undo();
        Check.same("its own redo", erase.redo() + erase.redo(), "0" + REFUSED);
    }

    private static void emptyEditSince() {
        Sheet put = undone();
        Check.same("put of the same", put.put("A1", "1") + put.redo(), "0" + REFUSED);
        Sheet nothing = undone();
        Check.same("put of nothing", nothing.put("B1", "") + nothing.redo(), "0" + REFUSED);
        Sheet fill = undone();
        Check.same("fill of itself", fill.fill("A1", "A1", "A1") + fill.redo(), "0" + REFUSED);
        Sheet insert = undone();
        Check.same("insert behind all", insert.insert(false, 9, 9) + insert.redo(), "0" + REFUSED);
    }

    private static void refusedSince() {
        Sheet sheet = new Sheet();
        sheet.put("Z200", "1");
        sheet.put("A1", "2");
        sheet.undo();
        String bad = "IllegalArgumentException";
        Check.same("bad put", sheet.put("A1", "\n"), bad);
        Check.same("refused put", sheet.put("A1", "=ROWS(A1:Z200)" + "+ROWS(A1:Z200)".repeat(3)), REFUSED);
        Check.same("bad fill", Sheet.of(() -> sheet.ledger.fill(0, 0, 1, 0, 0, 0)), bad);
        Check.same("refused fill", sheet.fill("Z200", "A1", "Z200"), REFUSED);
        Check.same("bad insert", sheet.insert(true, 0, 0), bad);
        Check.same("refused insert", sheet.insert(true, 0, 1), REFUSED);
        Check.same("bad erase", sheet.erase(true, 0, 27), bad);
        Check.same("can be done again", sheet.ledger.count(3), 1);
        Check.same("redo", sheet.redo() + sheet.show("A1"), "12");
        Check.same("undo", sheet.undo() + sheet.undo() + sheet.undo(), "11" + REFUSED);
    }

    private static void noEditsSince() {
        Sheet sheet = undone();
        sheet.type("12345");
        sheet.ledger.end(5);
        sheet.picture("A1", "B1");
        Check.same("redo", sheet.redo() + sheet.show("A1"), "12");
    }

    private static void undoIsNoEdit() {
        Sheet sheet = numbered(3);
        undoAll(sheet, 2);
        sheet.redo();
        sheet.undo();
        sheet.undo();
        Check.same("counts", sheet.ledger.count(2) + " " + sheet.ledger.count(3), "0 3");
        Check.same("redo", sheet.redo() + sheet.redo() + sheet.redo() + sheet.show("A1"), "1113");
    }

    private static void noneChanged() {
        Sheet sheet = new Sheet();
        sheet.put("A1", "5");
        sheet.put("A1", "=5");
        Check.same("undo", sheet.undo() + " " + sheet.ledger.count(1) + " " + sheet.ledger.content(0, 0, 0), "0 0 1");
        Check.same("redo", sheet.redo() + " " + sheet.ledger.count(1) + " " + sheet.ledger.content(0, 0, 0), "0 0 3");
    }

    private static void inputStays() {
        Sheet sheet = numbered(1);
        sheet.type("abc");
        sheet.undo();
        Check.same("behind undo", sheet.ledger.count(0), 3);
        sheet.redo();
        Check.same("behind redo", sheet.ledger.count(0), 3);
        sheet.ledger.put(0, 0);
        Check.same("its bytes", sheet.show("A1"), "'abc'");
    }
}
