/** Promises 4 and 10: what the FUNCTIONS are worth. */
public final class FormulaFunctionsTest {
    private static final String MOST = "9223372036854775807";
    private static final String LEAST = "(-9223372036854775807-1)";

    public static void main(String[] args) {
        gathering();
        overflowing();
        truths();
        picking();
        asking();
        reckoning();
        texts();
        replacing();
        places();
        searching();
        conditions();
        goneArguments();
        wrongCalls();
        Check.finish();
    }

    /**
     * A1:A6 are 3, empty, 'text', TRUE, -8, the text "5"; B1:B6 are x, 10, X, 20, x, 30; C1:C4 are #div, 1, #none, '';
     * D1 is 64 letters.
     */
    private static Sheet sheet() {
        Sheet sheet = new Sheet();
        String[] first = {"3", "", "text", "=TRUE", "-8", "=\"5\""};
        String[] second = {"x", "10", "X", "20", "x", "30"};
        String[] third = {"=1/0", "1", "=NA()", "=\"\""};
        for (int i = 0; i < 6; i++) {
            sheet.put("A" + (i + 1), first[i]);
            sheet.put("B" + (i + 1), second[i]);
        }
        for (int i = 0; i < 4; i++) {
            sheet.put("C" + (i + 1), third[i]);
        }
        sheet.put("D1", "ab".repeat(32));
        return sheet;
    }

    private static void worth(String formula, String due) {
        Check.same(formula, sheet().worth("K9", "=" + formula), due);
    }

    private static void gathering() {
        worth("SUM(A1:A6)", "-5");
        worth("SUM(A2:A4)", "0");
        worth("SUM(A1:B6)", "55");
        worth("PRODUCT(A1:A6)", "-24");
        worth("PRODUCT(A2:A4)", "1");
        worth("MIN(A1:A6)", "-8");
        worth("MAX(A1:A6)", "3");
        worth("MIN(A2:A4)", "0");
        worth("MAX(A2:A4)", "0");
        worth("MAX(A5)", "-8");
        worth("MIN(A1)", "3");
        worth("AVERAGE(A1:A6)", "-2");
        worth("AVERAGE(A2:A4)", "#div");
        worth("AVERAGE(B1:B6)", "20");
        worth("COUNT(A1:A6)", "2");
        worth("COUNT(A2)", "0");
        worth("COUNTA(A1:A6)", "5");
        worth("COUNTA(A2)", "0");
        worth("COUNTA(A1:C6)", "15");
        worth("COUNT(A1:C6)", "6");
        worth("SUM(C1:C4)", "#div");
        worth("SUM(C2:C4)", "#none");
        worth("PRODUCT(C2:C3)", "#none");
        worth("MIN(C2:C3)", "#none");
        worth("MAX(A1:C1)", "#div");
        worth("AVERAGE(C3:C4)", "#none");
        worth("AVERAGE(A2:C1)", "#div");
        worth("SUM(A5)", "-8");
        worth("COUNTA(C4)", "1");
    }

    private static void overflowing() {
        Sheet sheet = new Sheet();
        sheet.put("A1", MOST);
        sheet.put("B1", "1");
        sheet.put("C1", "-5");
        sheet.put("A2", "-9223372036854775808");
        sheet.put("B2", "-1");
        Check.same("sum", sheet.worth("K1", "=SUM(A1:C1)"), "#num");
        Check.same("average", sheet.worth("K1", "=AVERAGE(A1:C1)"), "#num");
        Check.same("row by row", sheet.worth("K1", "=SUM(A1:A2)"), "-1");
        Check.same("product", sheet.worth("K1", "=PRODUCT(A2:B2)"), "#num");
        Check.same("product", sheet.worth("K1", "=PRODUCT(A2)"), "-9223372036854775808");
        Check.same("min", sheet.worth("K1", "=MIN(A1:C2)"), "-9223372036854775808");
        Check.same("max", sheet.worth("K1", "=MAX(A1:C2)"), MOST);
        sheet.put("B1", "-1");
        sheet.put("C1", "1");
        Check.same("from the left", sheet.worth("K1", "=SUM(A1:C1)"), MOST);
        sheet.put("A3", "0");
        sheet.put("A4", "=NA()");
        Check.same("product with 0", sheet.worth("K1", "=PRODUCT(A2:A3)"), "0");
        Check.same("sumif", sheet.worth("K1", "=SUMIF(A1:C1,A1)"), MOST);
        sheet.put("B1", MOST);
        Check.same("sumif", sheet.worth("K1", "=SUMIF(A1:C1,A1)"), "#num");
        Check.same("countif", sheet.worth("K1", "=COUNTIF(A1:C1,A1)"), "2");
    }

    private static void truths() {
        worth("AND(TRUE,TRUE)", "TRUE");
        worth("AND(TRUE,FALSE)", "FALSE");
        worth("AND(FALSE,TRUE)", "FALSE");
        worth("AND(5,-1)", "TRUE");
        worth("AND(A2,TRUE)", "FALSE");
        worth("OR(FALSE,FALSE)", "FALSE");
        worth("OR(0,3)", "TRUE");
        worth("OR(A2,A2)", "FALSE");
        worth("NOT(0)", "TRUE");
        worth("NOT(TRUE)", "FALSE");
        worth("NOT(A2)", "TRUE");
        worth("NOT(\"TRUE\")", "#value");
        worth("AND(FALSE,\"x\")", "#value");
        worth("AND(FALSE,1/0)", "#div");
        worth("OR(TRUE,NA())", "#none");
        worth("OR(\"x\",NA())", "#none");
        worth("AND(\"\",TRUE)", "#value");
        worth("NOT(C1)", "#div");
    }

    private static void picking() {
        worth("IF(TRUE,1,2)", "1");
        worth("IF(FALSE,1,2)", "2");
        worth("IF(A2,1,2)", "2");
        worth("IF(-3,1,2)", "1");
        worth("IF(TRUE,1,1/0)", "1");
        worth("IF(FALSE,1/0,2)", "2");
        worth("IF(TRUE,1/0,2)", "#div");
        worth("IF(\"x\",1,2)", "#value");
        worth("IF(NA(),1,1/0)", "#none");
        worth("IF(TRUE,A2,1)", "0");
        worth("ISBLANK(IF(TRUE,A2,1))", "TRUE");
        worth("IF(IF(FALSE,1,0),\"a\",IF(1,\"b\",\"c\"))", "'b'");
        worth("1+IF(A1>2,10,20)*2", "21");
        worth("IFERROR(1,2)", "1");
        worth("IFERROR(1/0,2)", "2");
        worth("IFERROR(1/0,NA())", "#none");
        worth("IFERROR(1,1/0)", "1");
        worth("IFERROR(A2,5)", "0");
        worth("IFERROR(C1,C3)", "#none");
        worth("IFERROR(NOSUCH(),\"n\")", "'n'");
        worth("IFERROR(IFERROR(1/0,NA()),3)+IFERROR(4,5)", "7");
        worth("CHOOSE(1,\"a\",\"b\",\"c\")", "'a'");
        worth("CHOOSE(2,1/0,\"b\",1/0)", "'b'");
        worth("CHOOSE(3,1/0,1/0,\"c\")", "'c'");
        worth("CHOOSE(0,1,2,3)", "#value");
        worth("CHOOSE(4,1,2,3)", "#value");
        worth("CHOOSE(-1,1,2,3)", "#value");
        worth("CHOOSE(" + MOST + ",1,2,3)", "#value");
        worth("CHOOSE(4294967297,1,2,3)", "#value");
        worth("CHOOSE(\"2\",1,2,3)", "2");
        worth("CHOOSE(TRUE,1,2,3)", "1");
        worth("CHOOSE(\"x\",1,2,3)", "#value");
        worth("CHOOSE(NA(),1,2,1/0)", "#none");
        worth("CHOOSE(2,1,CHOOSE(3,4,5,IF(0,6,7)),8)&\"!\"", "'7!'");
        worth("SUM(B1:B6)+CHOOSE(1,2,3,4)*IF(1,IFERROR(1/0,5),6)", "70");
    }

    private static void asking() {
        worth("ISERROR(1/0)", "TRUE");
        worth("ISERROR(1)", "FALSE");
        worth("ISERROR(NOSUCH())", "TRUE");
        worth("ISERROR(A2)", "FALSE");
        worth("ISNUMBER(1)", "TRUE");
        worth("ISNUMBER(\"1\")", "FALSE");
        worth("ISNUMBER(TRUE)", "FALSE");
        worth("ISNUMBER(A2)", "FALSE");
        worth("ISNUMBER(C1)", "FALSE");
        worth("ISTEXT(\"\")", "TRUE");
        worth("ISTEXT(A3)", "TRUE");
        worth("ISTEXT(A2)", "FALSE");
        worth("ISTEXT(5)", "FALSE");
        worth("ISTEXT(C3)", "FALSE");
        worth("ISBLANK(A2)", "TRUE");
        worth("ISBLANK(C4)", "FALSE");
        worth("ISBLANK(0)", "FALSE");
        worth("ISBLANK(C1)", "FALSE");
        worth("ISBLANK(Z99)", "TRUE");
        worth("NA()", "#none");
        worth("ISERROR(NA())", "TRUE");
        worth("IF(ISERROR(C3),1,2)", "1");
    }

    private static void reckoning() {
        worth("ABS(-5)", "5");
        worth("ABS(5)", "5");
        worth("ABS(" + LEAST + ")", "#num");
        worth("ABS(-" + MOST + ")", MOST);
        worth("SIGN(-5)", "-1");
        worth("SIGN(0)", "0");
        worth("SIGN(" + MOST + ")", "1");
        worth("SIGN(" + LEAST + ")", "-1");
        worth("SIGN(A6)", "1");
        worth("SIGN(\"x\")", "#value");
        worth("ABS(C1)", "#div");
        worth("MOD(7,3)", "1");
        worth("MOD(-7,3)", "2");
        worth("MOD(7,-3)", "-2");
        worth("MOD(-7,-3)", "-1");
        worth("MOD(6,3)", "0");
        worth("MOD(-6,3)", "0");
        worth("MOD(7,0)", "#div");
        worth("MOD(" + LEAST + ",-1)", "0");
        worth("MOD(" + LEAST + "," + MOST + ")", "9223372036854775806");
        worth("MOD(" + MOST + "," + LEAST + ")", "-1");
        worth("MOD(1," + LEAST + ")", "-9223372036854775807");
        worth("MOD(A2,5)", "0");
        worth("MOD(\"x\",0)", "#value");
        worth("MOD(NA(),0)", "#none");
    }

    private static void texts() {
        worth("LEN(\"\")", "0");
        worth("LEN(A3)", "4");
        worth("LEN(-12)", "3");
        worth("LEN(TRUE)", "4");
        worth("LEN(A2)", "0");
        worth("LEN(D1)", "64");
        worth("UPPER(\"aZ-z0{`\")", "'AZ-Z0{`'");
        worth("LOWER(\"aZ-A0[@\")", "'az-a0[@'");
        worth("UPPER(A2)", "''");
        worth("LOWER(TRUE)", "'true'");
        worth("LEFT(\"hello\",2)", "'he'");
        worth("LEFT(\"hello\",0)", "''");
        worth("LEFT(\"hello\",9)", "'hello'");
        worth("LEFT(\"hello\"," + MOST + ")", "'hello'");
        worth("LEFT(\"hello\",4294967297)", "'hello'");
        worth("LEFT(\"hello\",-1)", "#value");
        worth("LEFT(12345,\"3\")", "'123'");
        worth("RIGHT(\"hello\",2)", "'lo'");
        worth("RIGHT(\"hello\",0)", "''");
        worth("RIGHT(\"hello\",5)", "'hello'");
        worth("RIGHT(\"hello\"," + MOST + ")", "'hello'");
        worth("RIGHT(\"hello\",-1)", "#value");
        worth("RIGHT(\"hello\"," + LEAST + ")", "#value");
        worth("MID(\"hello\",2,3)", "'ell'");
        worth("MID(\"hello\",1,9)", "'hello'");
        worth("MID(\"hello\",5,1)", "'o'");
        worth("MID(\"hello\",6,1)", "''");
        worth("MID(\"hello\"," + MOST + "," + MOST + ")", "''");
        worth("MID(\"hello\",2," + MOST + ")", "'ello'");
        worth("MID(\"hello\",0,1)", "#value");
        worth("MID(\"hello\",1,-1)", "#value");
        worth("MID(\"hello\"," + LEAST + ",2)", "#value");
        worth("MID(\"hello\",3,0)", "''");
        worth("MID(\"x\",\"y\",1)", "#value");
        worth("MID(\"x\",\"y\",NA())", "#none");
        worth("FIND(\"l\",\"hello\")", "3");
        worth("FIND(\"lo\",\"hello\")", "4");
        worth("FIND(\"\",\"hello\")", "1");
        worth("FIND(\"\",\"\")", "1");
        worth("FIND(\"L\",\"hello\")", "#value");
        worth("FIND(\"hello!\",\"hello\")", "#value");
        worth("FIND(\"x\",\"\")", "#value");
        worth("FIND(2,123)", "2");
        worth("FIND(A2,A3)", "1");
        worth("FIND(\"aab\",\"aaab\")", "2");
        worth("FIND(\"ba\",D1)", "2");
        worth("FIND(C1,NA())", "#div");
    }

    private static void replacing() {
        worth("REPLACE(\"hello\",\"l\",\"L\")", "'heLLo'");
        worth("REPLACE(\"hello\",\"l\",\"\")", "'heo'");
        worth("REPLACE(\"hello\",\"\",\"x\")", "'hello'");
        worth("REPLACE(\"\",\"\",\"x\")", "''");
        worth("REPLACE(\"\",\"a\",\"x\")", "''");
        worth("REPLACE(\"aaa\",\"aa\",\"b\")", "'ba'");
        worth("REPLACE(\"aaaa\",\"aa\",\"a\")", "'aa'");
        worth("REPLACE(\"abab\",\"ab\",\"ba\")", "'baba'");
        worth("REPLACE(\"a\",\"a\",\"aa\")", "'aa'");
        worth("REPLACE(121,2,3)", "'131'");
        worth("LEN(REPLACE(D1,\"a\",\"\"))", "32");
        worth("REPLACE(D1,\"ab\",\"cd\")", "'" + "cd".repeat(32) + "'");
        worth("REPLACE(D1,\"b\",\"bb\")", "#value");
        worth("REPLACE(D1,D1,\"\")", "''");
        worth("REPLACE(D1,\"x\",D1)", "'" + "ab".repeat(32) + "'");
        worth("REPLACE(\"x\",\"x\",D1)", "'" + "ab".repeat(32) + "'");
        worth("REPLACE(\"xx\",\"x\",D1)", "#value");
        worth("REPLACE(\"xy\",\"x\",D1)", "#value");
        worth("REPLACE(\"yx\",\"x\",D1)", "#value");
        worth("REPLACE(LEFT(D1,63)&\"b\",\"b\",\"\")", "'" + "a".repeat(32) + "'");
        worth("REPLACE(A3,\"t\",NA())", "#none");
    }

    private static void places() {
        worth("ROW(B7)", "7");
        worth("ROW(C9:B7)", "7");
        worth("COLUMN(B7)", "2");
        worth("COLUMN(C9:B7)", "2");
        worth("COLUMN(C2:B9)", "2");
        worth("ROWS(B7)", "1");
        worth("ROWS(C9:B7)", "3");
        worth("COLUMNS(B7)", "1");
        worth("COLUMNS(C9:B7)", "2");
        worth("COLUMNS(A1:Z8)", "26");
        worth("ROWS(L1:L200)", "200");
        worth("ROW(C1)", "1");
        worth("ROWS(C1:C3)", "3");
        worth("INDEX(A1:B6,1,1)", "3");
        worth("INDEX(A1:B6,6,2)", "30");
        worth("INDEX(B6:A1,3,1)", "'text'");
        worth("INDEX(A1:B6,2,1)", "0");
        worth("ISBLANK(INDEX(A1:B6,2,1))", "TRUE");
        worth("INDEX(C1:C4,1,1)", "#div");
        worth("INDEX(A1:B6,0,1)", "#ref");
        worth("INDEX(A1:B6,1,0)", "#ref");
        worth("INDEX(A1:B6,7,1)", "#ref");
        worth("INDEX(A1:B6,1,3)", "#ref");
        worth("INDEX(A1:B6,-1,1)", "#ref");
        worth("INDEX(A1:B6,4294967297,1)", "#ref");
        worth("INDEX(A1:B6," + MOST + "," + LEAST + ")", "#ref");
        worth("INDEX(A1,1,1)", "3");
        worth("INDEX(A2:B3,2,2)", "'X'");
        worth("INDEX(A2:B3,3,1)", "#ref");
        worth("INDEX(B2:C3,1,2)", "1");
        worth("INDEX(B2:C3,1,3)", "#ref");
        worth("INDEX(A1:B6,\"1\",TRUE)", "3");
        worth("INDEX(A1:B6,\"x\",1)", "#value");
        worth("INDEX(A1:B6,NA(),1/0)", "#none");
    }

    private static void searching() {
        worth("MATCH(20,B1:B6)", "4");
        worth("MATCH(\"x\",B1:B6)", "1");
        worth("MATCH(\"X\",B1:B6)", "3");
        worth("MATCH(20,A1:B6)", "8");
        worth("MATCH(\"20\",B1:B6)", "#none");
        worth("MATCH(0,A1:A6)", "2");
        worth("MATCH(\"\",A1:A6)", "2");
        worth("MATCH(FALSE,A1:A6)", "2");
        worth("MATCH(TRUE,A1:A6)", "4");
        worth("MATCH(A2,A1:A6)", "2");
        worth("MATCH(Z9,C1:C4)", "4");
        worth("MATCH(1,C1:C4)", "2");
        worth("MATCH(99,C1:C4)", "#none");
        worth("MATCH(C1,C1:C4)", "#div");
        worth("MATCH(3,A1)", "1");
        worth("LOOKUP(3,A1:B6,2)", "'x'");
        worth("LOOKUP(-8,A1:B6,2)", "'x'");
        worth("LOOKUP(\"text\",A1:B6,2)", "'X'");
        worth("LOOKUP(TRUE,A1:B6,1)", "TRUE");
        worth("LOOKUP(0,A1:B6,2)", "10");
        worth("LOOKUP(3,A1:B6,3)", "#ref");
        worth("LOOKUP(3,A1:B6,0)", "#ref");
        worth("LOOKUP(3,A1:B6," + LEAST + ")", "#ref");
        worth("LOOKUP(99,A1:B6,2)", "#none");
        worth("LOOKUP(99,A1:B6,3)", "#none");
        worth("LOOKUP(\"x\",A1:B6,1)", "#none");
        worth("LOOKUP(10,B6:C1,2)", "1");
        worth("LOOKUP(\"text\",A2:B6,2)", "'X'");
        worth("LOOKUP(20,B3:C6,1)", "20");
        worth("LOOKUP(20,B3:C6,3)", "#ref");
        worth("MATCH(20,B3:C6)", "3");
        worth("LOOKUP(\"x\",B1:C6,2)", "#div");
        worth("LOOKUP(1,C1:D4,2)", "0");
        worth("LOOKUP(3,A1:B6,\"x\")", "#value");
        worth("LOOKUP(NA(),A1:B6,1/0)", "#none");
    }

    private static void conditions() {
        worth("SUMIF(B1:B6,10)", "10");
        worth("SUMIF(B1:B6,\"x\")", "0");
        worth("SUMIF(B1:B6,\"10\")", "0");
        worth("COUNTIF(B1:B6,\"x\")", "2");
        worth("COUNTIF(B1:B6,10)", "1");
        worth("COUNTIF(A1:A6,0)", "1");
        worth("COUNTIF(A1:A6,\"\")", "1");
        worth("COUNTIF(A1:A6,FALSE)", "1");
        worth("COUNTIF(L1:M5,0)", "10");
        worth("COUNTIF(A1:A6,Z9)", "1");
        worth("COUNTIF(C1:C4,Z9)", "1");
        worth("COUNTIF(C1:C4,1)", "1");
        worth("SUMIF(C1:C4,1)", "1");
        worth("SUMIF(A1:A6,Z9)", "0");
        worth("COUNTIF(C1:C4,NA())", "#none");
        worth("SUMIF(C1:C4,C1)", "#div");
        worth("SUMIF(A1,3)", "3");
        worth("COUNTIF(A1:C6,TRUE)", "1");
        worth("COUNTIF(A1:B6,\"x\")", "2");
        worth("SUMIF(A1:C6,30)", "30");
        worth("COUNTIF(A1:A6,\"5\")", "1");
        worth("COUNTIF(A1:A6,5)", "0");
    }

    private static void goneArguments() {
        Sheet sheet = new Sheet();
        sheet.put("A1", "=SUM(A5:A6)");
        sheet.put("A2", "=SUM(A5)");
        sheet.put("A3", "=MATCH(NA(),A5:A6)");
        sheet.put("B1", "=LOOKUP(1,A5:A6,NA())");
        sheet.put("B2", "=ISERROR(A5)");
        sheet.put("B3", "=IFERROR(ROWS(A5:A6),8)");
        sheet.put("C1", "=COUNTA(A5:A6)");
        sheet.put("C2", "=A5");
        sheet.put("C3", "=IF(TRUE,1,A5)");
        sheet.put("D1", "=ABS(A5:A6)");
        sheet.put("D2", "=NOSUCH(A5)");
        sheet.put("D3", "=ROW(A5)+COLUMN(A5)");
        sheet.erase(false, 4, 2);
        String[] due = {"#ref", "#ref", "#none", "#ref", "TRUE", "8", "#ref", "#ref", "1", "#value", "#name", "#ref"};
        for (int i = 0; i < due.length; i++) {
            Check.same("GONE " + i, sheet.show(i / 3, i % 3), due[i]);
        }
    }

    private static void wrongCalls() {
        String[] wrong = {
            "SUM()", "SUM(A1,A2)", "SUM(1)", "SUM(\"A1\")", "SUM(NA())", "AND(1)", "AND(1,1,1)", "NOT()", "NOT(1,2)",
            "IF(1,2)", "IF(1,2,3,4)", "IF()", "IFERROR(1)", "IFERROR(1,2,3)", "CHOOSE(1,2,3)", "CHOOSE(1,2,3,4,5)",
            "CHOOSE(1,2,3,4,5,6,7,8)", "IFERROR(1,2,3,4,5,6,7,8,9)", "ABS(1,2)", "ABS()", "MOD(1)", "NA(1)", "NA(1/0)",
            "LEN()", "MID(1,2)", "REPLACE(1,2)", "INDEX(A1:B2,1)", "INDEX(1,1,1)", "MATCH(1,1)", "MATCH(A1:B2,A1:B2)",
            "LOOKUP(1,A1:B2)", "SUMIF(A1:A2)", "SUMIF(1,A1)", "COUNTIF(A1:A2,A1:A2)", "LEN(A1:A2)", "ISBLANK(A1:A1)",
            "ISERROR()", "ROW()", "ROW(1)", "AND(1/0)", "SUM(1/0)", "ABS(1/0,2)", "MATCH(1/0,5)", "SUM(IF(1,A1,A2))",
            "SUM(INDEX(A1:A2,1,1))", "SUM(SUM(A1))"
        };
        for (String formula : wrong) {
            worth(formula, "#value");
            worth("IFERROR(" + formula + ",\"caught\")", "'caught'");
        }
        worth("SUM(B1:B6)+ABS(SUM(A1,A2))", "#value");
        worth("NOSUCH(SUM(A1,A2))", "#name");
        worth("ABS(NOSUCH(1))", "#name");
        worth("ABS(NOSUCH(1),1)", "#value");
    }
}
