/** The boundary cases of FUNCTIONS of RANGES, a test for each. */
public final class EdgesOfRangesTest {
    private static final String MOST = "9223372036854775807";
    private static final String LEAST = "-9223372036854775808";
    private static final String LOW = "(-9223372036854775807-1)";

    public static void main(String[] args) {
        Check.sentence("A RANGE: its corners, in any order", EdgesOfRangesTest::cornersInAnyOrder);
        Check.sentence("A RANGE: all CELLS between, row by row", EdgesOfRangesTest::rowByRow);
        Check.sentence("a REF, then a RANGE of one CELL", EdgesOfRangesTest::refAsRange);
        Check.sentence("SUM(r): of the NUMBERS in it; of none 0", EdgesOfRangesTest::sum);
        Check.sentence("SUM(r): num as said, from the left", EdgesOfRangesTest::sumNoLong);
        Check.sentence("PRODUCT(r): of the NUMBERS in it; of none 1", EdgesOfRangesTest::product);
        Check.sentence("PRODUCT(r): num as said, from the left", EdgesOfRangesTest::productNoLong);
        Check.sentence("MIN(r), of none 0", EdgesOfRangesTest::min);
        Check.sentence("MAX(r), of none 0", EdgesOfRangesTest::max);
        Check.sentence("AVERAGE: SUM / how many", EdgesOfRangesTest::average);
        Check.sentence("AVERAGE: of none: div", EdgesOfRangesTest::averageOfNone);
        Check.sentence("AVERAGE: num as said", EdgesOfRangesTest::averageNoLong);
        Check.sentence("ERRORS in it being the outcome, the first one", EdgesOfRangesTest::errorsInIt);
        Check.sentence("ERRORS in it being the outcome, before num", EdgesOfRangesTest::errorsBeforeNum);
        Check.sentence("COUNT(r): how many NUMBERS", EdgesOfRangesTest::count);
        Check.sentence("COUNTA(r): how many not EMPTY", EdgesOfRangesTest::counta);
        Check.sentence("ROW(r), COLUMN(r): of its first CELL, from 1", EdgesOfRangesTest::rowAndColumn);
        Check.sentence("ROWS(r), COLUMNS(r)", EdgesOfRangesTest::rowsAndColumns);
        Check.sentence("INDEX(r, n, n): both ends of it", EdgesOfRangesTest::index);
        Check.sentence("INDEX: not there: ERROR ref", EdgesOfRangesTest::indexNotThere);
        Check.sentence("MATCH(x, r): the place of the first CELL that's the same", EdgesOfRangesTest::match);
        Check.sentence("MATCH: the same by =", EdgesOfRangesTest::matchByEqual);
        Check.sentence("MATCH: none: ERROR none", EdgesOfRangesTest::matchNone);
        Check.sentence("LOOKUP(x, r, n): in the first row the VALUE in column n", EdgesOfRangesTest::lookup);
        Check.sentence("LOOKUP: column not there: ERROR ref", EdgesOfRangesTest::lookupNoColumn);
        Check.sentence("LOOKUP: none: ERROR none", EdgesOfRangesTest::lookupNone);
        Check.sentence("SUMIF(r, x): the sum of NUMBERS among them", EdgesOfRangesTest::sumif);
        Check.sentence("SUMIF: num as said", EdgesOfRangesTest::sumifNoLong);
        Check.sentence("COUNTIF(r, x): how many", EdgesOfRangesTest::countif);
        Check.sentence("ERRORS in r are so with nothing", EdgesOfRangesTest::errorsAreSoWithNothing);
        Check.sentence("the whole SHEET but one COLUMN", EdgesOfRangesTest::wholeSheet);
        Check.finish();
    }

    /** Cells of ROWS from A1 on, with spaces between CELLS and a - for one with nothing. */
    private static Sheet with(String... rows) {
        Sheet sheet = new Sheet();
        for (int row = 0; row < rows.length; row++) {
            String[] cells = rows[row].split(" ");
            for (int column = 0; column < cells.length; column++) {
                if (!cells[column].equals("-")) {
                    sheet.put(Sheet.name(column + 26 * row), cells[column]);
                }
            }
        }
        return sheet;
    }

    private static void worth(Sheet sheet, String formula, String due) {
        Check.same(formula, sheet.worth("Z100", "=" + formula), due);
    }

    /** 1 2 / 3 4 / 5 6. */
    private static Sheet numbers() {
        return with("1 2", "3 4", "5 6");
    }

    /** No NUMBER: nothing, a TEXT, TRUE, the TEXT 5, a TEXT of no byte. */
    private static Sheet none() {
        return with("- word =TRUE =\"5\" =\"\"");
    }

    private static void cornersInAnyOrder() {
        for (String range : new String[] {"A1:B3", "B3:A1", "A3:B1", "B1:A3"}) {
            worth(numbers(), "SUM(" + range + ")", "21");
            worth(numbers(), "INDEX(" + range + ",1,2)", "2");
            worth(numbers(), "ROW(" + range + ")", "1");
            worth(numbers(), "COLUMNS(" + range + ")", "2");
            worth(numbers(), "MATCH(3," + range + ")", "3");
        }
    }

    private static void rowByRow() {
        worth(numbers(), "MATCH(2,A1:B3)", "2");
        worth(numbers(), "MATCH(3,A1:B3)", "3");
        worth(with("=1/0 1", "=NA() 1"), "SUM(B2:A1)", "#div");
        worth(with("1 =NA()", "=1/0 1"), "SUM(A1:B2)", "#none");
    }

    private static void refAsRange() {
        worth(numbers(), "SUM(B2)", "4");
        worth(numbers(), "SUM($B$2)", "4");
        worth(numbers(), "ROWS(B2)", "1");
        worth(numbers(), "COLUMNS(B2)", "1");
        worth(numbers(), "INDEX(B2,1,1)", "4");
        worth(numbers(), "INDEX(B2,1,2)", "#ref");
        worth(numbers(), "MATCH(4,B2)", "1");
        worth(numbers(), "LOOKUP(4,B2,1)", "4");
        worth(numbers(), "COUNTIF(B2,4)", "1");
        worth(numbers(), "SUM(C9)", "0");
    }

    private static void sum() {
        worth(numbers(), "SUM(A1:B3)", "21");
        worth(none(), "SUM(A1:E1)", "0");
        worth(new Sheet(), "SUM(A1:Y200)", "0");
        worth(with("5 word =TRUE =\"7\" -8"), "SUM(A1:E1)", "-3");
        worth(with(LEAST), "SUM(A1)", LEAST);
    }

    private static void sumNoLong() {
        worth(with(MOST + " 0"), "SUM(A1:B1)", MOST);
        worth(with(MOST + " 1"), "SUM(A1:B1)", "#num");
        worth(with(MOST + " 1 -1"), "SUM(A1:C1)", "#num");
        worth(with(MOST + " -1 1"), "SUM(A1:C1)", MOST);
        worth(with(LEAST + " -1"), "SUM(A1:B1)", "#num");
        worth(with(LEAST + " " + MOST), "SUM(A1:B1)", "-1");
    }

    private static void product() {
        worth(numbers(), "PRODUCT(A1:B3)", "720");
        worth(none(), "PRODUCT(A1:E1)", "1");
        worth(new Sheet(), "PRODUCT(A1:Y200)", "1");
        worth(with("5 word -2"), "PRODUCT(A1:C1)", "-10");
        worth(with("5 0"), "PRODUCT(A1:B1)", "0");
        worth(with(LEAST), "PRODUCT(A1)", LEAST);
    }

    private static void productNoLong() {
        worth(with(MOST + " 2"), "PRODUCT(A1:B1)", "#num");
        worth(with(MOST + " 2 0"), "PRODUCT(A1:C1)", "#num");
        worth(with("0 " + MOST + " 2"), "PRODUCT(A1:C1)", "0");
        worth(with(LEAST + " -1"), "PRODUCT(A1:B1)", "#num");
        worth(with("-1 " + LEAST), "PRODUCT(A1:B1)", "#num");
        worth(with("4611686018427387904 -2"), "PRODUCT(A1:B1)", LEAST);
    }

    private static void min() {
        worth(numbers(), "MIN(A1:B3)", "1");
        worth(with("5 7"), "MIN(A1:B1)", "5");
        worth(with("7 5"), "MIN(A1:B1)", "5");
        worth(with("-5 7"), "MIN(A1:B1)", "-5");
        worth(with(MOST + " " + LEAST), "MIN(A1:B1)", LEAST);
        worth(with(MOST), "MIN(A1:B2)", MOST);
        worth(none(), "MIN(A1:E1)", "0");
        worth(new Sheet(), "MIN(A1)", "0");
    }

    private static void max() {
        worth(numbers(), "MAX(A1:B3)", "6");
        worth(with("-5 -7"), "MAX(A1:B1)", "-5");
        worth(with("-7 -5"), "MAX(A1:B1)", "-5");
        worth(with(MOST + " " + LEAST), "MAX(A1:B1)", MOST);
        worth(with(LEAST), "MAX(A1:B2)", LEAST);
        worth(none(), "MAX(A1:E1)", "0");
        worth(new Sheet(), "MAX(A1)", "0");
    }

    private static void average() {
        worth(numbers(), "AVERAGE(A1:B3)", "3");
        worth(with("-1 -2 -4"), "AVERAGE(A1:C1)", "-2");
        worth(with("5 word - =TRUE"), "AVERAGE(A1:D1)", "5");
        worth(with("0"), "AVERAGE(A1)", "0");
        worth(with(LEAST), "AVERAGE(A1)", LEAST);
    }

    private static void averageOfNone() {
        worth(none(), "AVERAGE(A1:E1)", "#div");
        worth(new Sheet(), "AVERAGE(A1)", "#div");
    }

    private static void averageNoLong() {
        worth(with(MOST + " 1"), "AVERAGE(A1:B1)", "#num");
        worth(with(MOST + " 1 -5"), "AVERAGE(A1:C1)", "#num");
        worth(with(MOST + " -1 1"), "AVERAGE(A1:C1)", "3074457345618258602");
    }

    private static void errorsInIt() {
        for (String name : new String[] {"SUM", "PRODUCT", "MIN", "MAX", "AVERAGE"}) {
            worth(with("1 =NA() =1/0 2"), name + "(A1:D1)", "#none");
            worth(with("1 =1/0 =NA() 2"), name + "(A1:D1)", "#div");
            worth(with("=NOSUCH()"), name + "(A1)", "#name");
            worth(with("- - =1+"), name + "(A1:C1)", "#syntax");
        }
    }

    private static void errorsBeforeNum() {
        for (String name : new String[] {"SUM", "PRODUCT", "AVERAGE"}) {
            worth(with(MOST + " 2"), name + "(A1:B1)", "#num");
            worth(with(MOST + " 2 =1/0"), name + "(A1:C1)", "#div");
            worth(with(MOST + " =1/0 2"), name + "(A1:C1)", "#div");
            worth(with("=1/0 " + MOST + " 2"), name + "(A1:C1)", "#div");
            worth(with(MOST + " 2", "- -", "- =1/0"), name + "(A1:B3)", "#div");
            worth(with(LEAST + " " + LEAST + " =1/0 =NA()"), name + "(A1:D1)", "#div");
            worth(with(MOST + " 2 =NA() =1/0"), name + "(A1:D1)", "#none");
            worth(with(MOST + " 2 =A1+B1 =1/0"), name + "(A1:D1)", "#num");
            worth(with(MOST + " 2 =1/0"), name + "(A1:B1)", "#num");
        }
        worth(with(MOST + " 1 =1/0"), "SUM(A1:C1)", "#div");
        worth(with(MOST + " 1 =1/0"), "AVERAGE(A1:C1)", "#div");
        worth(with(MOST + " " + MOST + " =1/0"), "SUMIF(A1:C1," + MOST + ")", "#num");
    }

    private static void count() {
        worth(numbers(), "COUNT(A1:B3)", "6");
        worth(none(), "COUNT(A1:E1)", "0");
        worth(with("0 =1/0 - 5 =5"), "COUNT(A1:E1)", "3");
        worth(numbers(), "COUNT(B2:C4)", "2");
        worth(new Sheet(), "COUNT(A1:Y200)", "0");
    }

    private static void counta() {
        worth(numbers(), "COUNTA(A1:B3)", "6");
        worth(none(), "COUNTA(A1:E1)", "4");
        worth(with("0 =1/0 - =B9"), "COUNTA(A1:D1)", "3");
        worth(numbers(), "COUNTA(B2:C4)", "2");
        worth(numbers(), "COUNTA(B9:C10)", "0");
        worth(new Sheet(), "COUNTA(A1:Y200)", "0");
    }

    private static void rowAndColumn() {
        worth(new Sheet(), "ROW(A1)", "1");
        worth(new Sheet(), "COLUMN(A1)", "1");
        worth(new Sheet(), "ROW(Z200)", "200");
        worth(new Sheet(), "COLUMN(Z200)", "26");
        worth(new Sheet(), "ROW(D9:B7)", "7");
        worth(new Sheet(), "COLUMN(D9:B7)", "2");
        worth(new Sheet(), "ROW(B9:D7)", "7");
        worth(new Sheet(), "COLUMN(D7:B9)", "2");
        worth(with("=1/0"), "ROW(A1)", "1");
    }

    private static void rowsAndColumns() {
        worth(new Sheet(), "ROWS(A1)", "1");
        worth(new Sheet(), "COLUMNS(A1)", "1");
        worth(new Sheet(), "ROWS(A1:A200)", "200");
        worth(new Sheet(), "COLUMNS(A1:Z1)", "26");
        worth(new Sheet(), "ROWS(D9:B7)", "3");
        worth(new Sheet(), "COLUMNS(D9:B7)", "3");
        worth(new Sheet(), "COLUMNS(B7:D9)", "3");
        worth(with("=1/0"), "ROWS(A1:A2)", "2");
    }

    private static void index() {
        worth(numbers(), "INDEX(A1:B3,1,1)", "1");
        worth(numbers(), "INDEX(A1:B3,1,2)", "2");
        worth(numbers(), "INDEX(A1:B3,3,1)", "5");
        worth(numbers(), "INDEX(A1:B3,3,2)", "6");
        worth(numbers(), "INDEX(B2:A3,1,1)", "3");
        worth(numbers(), "INDEX(A1:B3,\"2\",TRUE)", "3");
        worth(with("word =1/0 =TRUE -"), "INDEX(A1:D1,1,1)", "'word'");
        worth(with("word =1/0 =TRUE -"), "INDEX(A1:D1,1,2)", "#div");
        worth(with("word =1/0 =TRUE -"), "INDEX(A1:D1,1,3)", "TRUE");
        worth(with("word =1/0 =TRUE -"), "ISBLANK(INDEX(A1:D1,1,4))", "TRUE");
    }

    private static void indexNotThere() {
        String[] places = {
            "0,1", "1,0", "4,1", "1,3", "-1,1", "1,-1", "4294967297,1", "1,4294967297", MOST + ",1", "1," + MOST, LOW + ",1",
            "1," + LOW, "C9,1"
        };
        for (String place : places) {
            worth(numbers(), "INDEX(A1:B3," + place + ")", "#ref");
        }
        worth(numbers(), "INDEX(A2:B2,2,1)", "#ref");
        worth(numbers(), "INDEX(A2:B2,0,1)", "#ref");
        worth(numbers(), "INDEX(A1:B3,\"x\",1)", "#value");
    }

    private static void match() {
        worth(numbers(), "MATCH(1,A1:B3)", "1");
        worth(numbers(), "MATCH(6,A1:B3)", "6");
        worth(numbers(), "MATCH(4,B2:B3)", "1");
        worth(with("7 8 7 8"), "MATCH(8,A1:D1)", "2");
        worth(with("word =TRUE"), "MATCH(\"word\",A1:B1)", "1");
        worth(with("word =TRUE"), "MATCH(TRUE,A1:B1)", "2");
    }

    private static void matchByEqual() {
        worth(with("5 =\"5\""), "MATCH(\"5\",A1:B1)", "2");
        worth(with("1 =TRUE"), "MATCH(TRUE,A1:B1)", "2");
        worth(with("Word word"), "MATCH(\"word\",A1:B1)", "2");
        worth(with("5 -"), "MATCH(0,A1:B1)", "2");
        worth(with("5 -"), "MATCH(\"\",A1:B1)", "2");
        worth(with("5 -"), "MATCH(FALSE,A1:B1)", "2");
        worth(with("5 -"), "MATCH(C9,A1:B1)", "2");
        worth(with("5 0"), "MATCH(C9,A1:B1)", "2");
        worth(with("5 =\"\""), "MATCH(C9,A1:B1)", "2");
        worth(with("5 =FALSE"), "MATCH(C9,A1:B1)", "2");
    }

    private static void matchNone() {
        worth(numbers(), "MATCH(7,A1:B3)", "#none");
        worth(numbers(), "MATCH(\"1\",A1:B3)", "#none");
        worth(numbers(), "MATCH(TRUE,A1:B3)", "#none");
        worth(numbers(), "MATCH(1,A2:B3)", "#none");
        worth(numbers(), "MATCH(C9,A1:B3)", "#none");
    }

    private static void lookup() {
        worth(numbers(), "LOOKUP(1,A1:B3,1)", "1");
        worth(numbers(), "LOOKUP(1,A1:B3,2)", "2");
        worth(numbers(), "LOOKUP(5,A1:B3,2)", "6");
        worth(with("7 1", "7 2"), "LOOKUP(7,A1:B2,2)", "1");
        worth(with("9 1", "7 2"), "LOOKUP(7,B2:A1,2)", "2");
        worth(with("5 1", "- 2"), "LOOKUP(0,A1:B2,2)", "2");
        worth(with("a =1/0"), "LOOKUP(\"a\",A1:B1,2)", "#div");
        worth(with("a -"), "ISBLANK(LOOKUP(\"a\",A1:B1,2))", "TRUE");
    }

    private static void lookupNoColumn() {
        for (String column : new String[] {"0", "3", "-1", "4294967297", MOST, LOW, "C9"}) {
            worth(numbers(), "LOOKUP(1,A1:B3," + column + ")", "#ref");
        }
        worth(numbers(), "LOOKUP(2,B1:B3,2)", "#ref");
        worth(numbers(), "LOOKUP(1,A1:B3,\"x\")", "#value");
    }

    private static void lookupNone() {
        worth(numbers(), "LOOKUP(7,A1:B3,1)", "#none");
        worth(numbers(), "LOOKUP(2,A1:B3,1)", "#none");
        worth(numbers(), "LOOKUP(1,A2:B3,1)", "#none");
        worth(numbers(), "LOOKUP(\"1\",A1:B3,1)", "#none");
        worth(numbers(), "LOOKUP(7,A1:B3,9)", "#none");
    }

    private static void sumif() {
        worth(with("7 8 7"), "SUMIF(A1:C1,7)", "14");
        worth(with("7 8 7"), "SUMIF(A1:C1,9)", "0");
        worth(with("7 =\"7\" 7"), "SUMIF(A1:C1,\"7\")", "0");
        worth(with("1 =TRUE"), "SUMIF(A1:B1,TRUE)", "0");
        worth(with("5 - 0"), "SUMIF(A1:C1,0)", "0");
        worth(with("5 - 0"), "SUMIF(A1:C1,C9)", "0");
        worth(with(LEAST), "SUMIF(A1," + LOW + ")", LEAST);
    }

    private static void sumifNoLong() {
        worth(with(MOST + " 1 " + MOST), "SUMIF(A1:C1," + MOST + ")", "#num");
        worth(with(MOST + " 1"), "SUMIF(A1:B1," + MOST + ")", MOST);
        worth(with(LEAST + " " + LEAST), "SUMIF(A1:B1," + LOW + ")", "#num");
        worth(with(MOST + " " + MOST), "COUNTIF(A1:B1," + MOST + ")", "2");
    }

    private static void countif() {
        worth(with("7 8 7"), "COUNTIF(A1:C1,7)", "2");
        worth(with("7 8 7"), "COUNTIF(A1:C1,9)", "0");
        worth(with("a A a"), "COUNTIF(A1:C1,\"a\")", "2");
        worth(with("5 - 0 =\"\" =FALSE"), "COUNTIF(A1:E1,0)", "2");
        worth(with("5 - 0 =\"\" =FALSE"), "COUNTIF(A1:E1,\"\")", "2");
        worth(with("5 - 0 =\"\" =FALSE"), "COUNTIF(A1:E1,FALSE)", "2");
        worth(with("5 - 0 =\"\" =FALSE"), "COUNTIF(A1:E1,C9)", "4");
        worth(new Sheet(), "COUNTIF(A1:Y200,0)", "5000");
    }

    private static void errorsAreSoWithNothing() {
        worth(with("=1/0 5 =NA()"), "MATCH(5,A1:C1)", "2");
        worth(with("=1/0 - =NA()"), "MATCH(0,A1:C1)", "2");
        worth(with("=1/0 =NA()"), "MATCH(C9,A1:B1)", "#none");
        worth(with("=1/0 1", "5 2"), "LOOKUP(5,A1:B2,2)", "2");
        worth(with("=1/0 1"), "LOOKUP(5,A1:B1,2)", "#none");
        worth(with("=1/0 5 =NA()"), "SUMIF(A1:C1,5)", "5");
        worth(with("=1/0 5 =NA()"), "COUNTIF(A1:C1,5)", "1");
        worth(with("=1/0 5 =NA()"), "COUNTIF(A1:C1,C9)", "0");
        worth(with("=1/0 =NA()"), "MATCH(1/0,A1:B1)", "#div");
        worth(with("=1/0 =NA()"), "COUNTIF(A1:B1,NA())", "#none");
        worth(with("=1/0 =NA()"), "SUMIF(A1:B1,1/0)", "#div");
    }

    private static void wholeSheet() {
        Sheet sheet = with("5");
        sheet.put("Y200", "7");
        worth(sheet, "SUM(A1:Y200)", "12");
        worth(sheet, "MATCH(7,Y200:A1)", "5000");
        worth(sheet, "INDEX(A1:Y200,200,25)", "7");
        worth(sheet, "COUNTA(A1:Y200)", "2");
    }
}
