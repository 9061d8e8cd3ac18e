import java.util.ArrayList;
import java.util.List;

/** The boundary cases of FUNCTIONS without RANGES, a test for each, and of calls that are wrong. */
public final class EdgesOfFunctionsTest {
    private static final String MOST = "9223372036854775807";
    private static final String LOW = "(-9223372036854775807-1)";
    private static final String[] FUNCTIONS = {
        "SUM r", "PRODUCT r", "MIN r", "MAX r", "AVERAGE r", "COUNT r", "COUNTA r", "AND bb", "OR bb", "NOT b", "IF bxx",
        "IFERROR xx", "CHOOSE nxxx", "ISERROR x", "ISNUMBER x", "ISTEXT x", "ISBLANK x", "ABS n", "SIGN n", "MOD nn", "LEN t",
        "UPPER t", "LOWER t", "LEFT tn", "RIGHT tn", "MID tnn", "FIND tt", "REPLACE ttt", "ROW r", "COLUMN r", "ROWS r",
        "COLUMNS r", "NA ", "INDEX rnn", "MATCH xr", "LOOKUP xrn", "SUMIF rx", "COUNTIF rx"
    };

    public static void main(String[] args) {
        Check.sentence("other NAMES: ERROR name", EdgesOfFunctionsTest::otherNames);
        Check.sentence("other NAMES: a letter away from one that is known", EdgesOfFunctionsTest::aLetterAway);
        Check.sentence("another number of arguments: ERROR value", EdgesOfFunctionsTest::otherNumbers);
        Check.sentence("no r where r stands: ERROR value", EdgesOfFunctionsTest::noRange);
        Check.sentence("a RANGE where none does: ERROR value", EdgesOfFunctionsTest::rangeWhereNone);
        Check.sentence("name and value go before all", EdgesOfFunctionsTest::wrongBeforeAll);
        Check.sentence("each NAME is known, and takes what it takes", EdgesOfFunctionsTest::eachIsKnown);
        Check.sentence("all arguments are worked out first, from the left", EdgesOfFunctionsTest::argumentsFirst);
        Check.sentence("AND(b, b)", EdgesOfFunctionsTest::and);
        Check.sentence("OR(b, b)", EdgesOfFunctionsTest::or);
        Check.sentence("NOT(b)", EdgesOfFunctionsTest::not);
        Check.sentence("IF(b, x, x): only the one that's taken", EdgesOfFunctionsTest::ifOnlyTaken);
        Check.sentence("IFERROR(x, x): the first one, if it's no ERROR", EdgesOfFunctionsTest::ifError);
        Check.sentence("CHOOSE(n, x, x, x): number n, only that", EdgesOfFunctionsTest::choose);
        Check.sentence("CHOOSE: not 1 .. 3: ERROR value", EdgesOfFunctionsTest::chooseOutOfRange);
        Check.sentence("ISERROR, ISNUMBER, ISTEXT, ISBLANK: TRUTHS", EdgesOfFunctionsTest::asking);
        Check.sentence("ISERROR, ISNUMBER, ISTEXT, ISBLANK: of ERRORS, too", EdgesOfFunctionsTest::askingOfErrors);
        Check.sentence("ABS(n): num, of ABS alone", EdgesOfFunctionsTest::abs);
        Check.sentence("SIGN(n)", EdgesOfFunctionsTest::sign);
        Check.sentence("MOD(n, n): n / m cut downwards", EdgesOfFunctionsTest::mod);
        Check.sentence("MOD(n, n): of any size", EdgesOfFunctionsTest::modOfAnySize);
        Check.sentence("MOD(n, n): by 0: div", EdgesOfFunctionsTest::modByZero);
        Check.sentence("LEN(t)", EdgesOfFunctionsTest::len);
        Check.sentence("UPPER(t), LOWER(t): both ends of the letters", EdgesOfFunctionsTest::cases);
        Check.sentence("LEFT(t, n): as many as there are; below 0: ERROR value", EdgesOfFunctionsTest::left);
        Check.sentence("RIGHT(t, n): as many as there are; below 0: ERROR value", EdgesOfFunctionsTest::right);
        Check.sentence("MID(t, n, n): from number n (from 1) on so many", EdgesOfFunctionsTest::mid);
        Check.sentence("MID: a number below 0, or its place below 1: ERROR value", EdgesOfFunctionsTest::midBelow);
        Check.sentence("FIND(t, t): the place (from 1) of the first t", EdgesOfFunctionsTest::find);
        Check.sentence("FIND: no byte: 1", EdgesOfFunctionsTest::findNoByte);
        Check.sentence("FIND: not there: ERROR value", EdgesOfFunctionsTest::findNotThere);
        Check.sentence("REPLACE: each second t becomes the third, from the left", EdgesOfFunctionsTest::replace);
        Check.sentence("REPLACE: none if it's no byte", EdgesOfFunctionsTest::replaceNoByte);
        Check.sentence("REPLACE: above 64 bytes: ERROR value", EdgesOfFunctionsTest::replaceTooLong);
        Check.sentence("NA(): ERROR none", EdgesOfFunctionsTest::na);
        Check.finish();
    }

    /** A1 is 5, A2 and B2 are empty, C1 is text, D1 is 64 times x, E1 #div. */
    private static void worth(String formula, String due) {
        Sheet sheet = new Sheet();
        sheet.put("A1", "5");
        sheet.put("C1", "text");
        sheet.put("D1", "x".repeat(64));
        sheet.put("E1", "=1/0");
        Check.same(formula, sheet.worth("K9", "=" + formula), due);
    }

    private static void otherNames() {
        worth("NO()", "#name");
        worth("SUMS(A1)", "#name");
        worth("SU(A1)", "#name");
        worth("COUNTIFS(A1,1)", "#name");
        worth("NOSUCHNAMEAB(1)", "#name");
        worth("ABS(NO(1))", "#name");
    }

    private static void aLetterAway() {
        List<String> known = new ArrayList<>();
        for (String function : FUNCTIONS) {
            known.add(function.split(" ", -1)[0]);
        }
        for (String name : known) {
            String first = "Q" + name.substring(1);
            String last = name.substring(0, name.length() - 1) + "Q";
            String less = name.substring(0, name.length() - 1);
            for (String other : new String[] {first, last, name + "Q", "Q" + name, less}) {
                if (other.length() > 1 && !known.contains(other)) {
                    worth(other + "()", "#name");
                }
            }
        }
        worth("TRUQ()", "#name");
        worth("QRUE()", "#name");
        worth("FALSES()", "#name");
        worth("QALSE()", "#name");
    }

    /** A call with so many arguments, each of which would be fine where the FUNCTION has one. */
    private static String call(String function, int many) {
        String[] parts = function.split(" ", -1);
        StringBuilder call = new StringBuilder(parts[0]).append('(');
        for (int i = 0; i < many; i++) {
            char takes = i < parts[1].length() ? parts[1].charAt(i) : 'x';
            call.append(i == 0 ? "" : ",").append(takes == 'r' ? "A1:B2" : "1");
        }
        return call.append(')').toString();
    }

    private static int many(String function) {
        return function.split(" ", -1)[1].length();
    }

    private static void otherNumbers() {
        for (String function : FUNCTIONS) {
            int many = many(function);
            for (int given : new int[] {0, many - 1, many + 1, many + 2, 9}) {
                if (given >= 0 && given != many) {
                    worth(call(function, given), "#value");
                }
            }
        }
    }

    private static void noRange() {
        for (String function : FUNCTIONS) {
            String call = call(function, many(function));
            if (call.contains("A1:B2")) {
                for (String other : new String[] {"5", "\"A1\"", "A1+0", "-A1", "(A1)", "IF(TRUE,A1,A1)", "A1%", "TRUE"}) {
                    worth(call.replace("A1:B2", other), "#value");
                }
            }
        }
    }

    private static void rangeWhereNone() {
        for (String function : FUNCTIONS) {
            String takes = function.split(" ", -1)[1];
            for (int i = 0; i < takes.length(); i++) {
                if (takes.charAt(i) != 'r') {
                    worth(withRangeAt(function, takes, i), "#value");
                }
            }
        }
        worth("IF(TRUE,1,A1:A1)", "#value");
        worth("IFERROR(A1:A1,1)", "#value");
    }

    private static String withRangeAt(String function, String takes, int place) {
        StringBuilder call = new StringBuilder(function.split(" ", -1)[0]).append('(');
        for (int i = 0; i < takes.length(); i++) {
            boolean range = i == place || takes.charAt(i) == 'r';
            call.append(i == 0 ? "" : ",").append(range ? "A1:B2" : "1");
        }
        return call.append(')').toString();
    }

    private static void wrongBeforeAll() {
        worth("NO(E1)", "#name");
        worth("NO(A1:B2,NA())", "#name");
        worth("ABS(NA(),1)", "#value");
        worth("AND(E1)", "#value");
        worth("IF(E1,1)", "#value");
        worth("NA(E1)", "#value");
        worth("MATCH(NA(),5)", "#value");
        worth("LEFT(E1,A1:B2)", "#value");
        worth("IFERROR(E1,1,2)", "#value");
        worth("ISERROR(E1,1)", "#value");
        worth("CHOOSE(2,E1,1)", "#value");
        worth("IFERROR(ABS(1,2),\"caught\")", "'caught'");
        worth("IFERROR(NO(),\"caught\")", "'caught'");
        worth("ISERROR(SUM(5))", "TRUE");
    }

    private static void eachIsKnown() {
        String[] due = {
            "5", "5", "5", "5", "5", "1", "1", "TRUE", "TRUE", "FALSE", "1", "1", "1", "FALSE", "TRUE", "FALSE", "FALSE", "1",
            "1", "0", "1", "'1'", "'1'", "'1'", "'1'", "'1'", "1", "'1'", "1", "1", "2", "2", "#none", "5", "#none", "#none",
            "0", "0"
        };
        for (int i = 0; i < FUNCTIONS.length; i++) {
            worth(call(FUNCTIONS[i], many(FUNCTIONS[i])), due[i]);
        }
    }

    private static void argumentsFirst() {
        worth("AND(FALSE,NA())", "#none");
        worth("OR(TRUE,E1)", "#div");
        worth("AND(E1,NA())", "#div");
        worth("MOD(NA(),E1)", "#none");
        worth("LEFT(\"a\",E1)", "#div");
        worth("LEFT(E1,-1)", "#div");
        worth("MID(NA(),E1,0)", "#none");
        worth("MID(\"a\",E1,NA())", "#div");
        worth("FIND(E1,NA())", "#div");
        worth("REPLACE(\"a\",\"b\",E1)", "#div");
        worth("REPLACE(\"a\",NA(),E1)", "#none");
        worth("MID(\"a\",\"x\",NA())", "#none");
        worth("INDEX(A1:B2,9,E1)", "#div");
        worth("MATCH(E1,E1:E2)", "#div");
        worth("LOOKUP(NA(),A1:B2,E1)", "#none");
        worth("COUNTIF(A1:B2,NA())", "#none");
    }

    private static void and() {
        worth("AND(TRUE,TRUE)", "TRUE");
        worth("AND(TRUE,FALSE)", "FALSE");
        worth("AND(FALSE,TRUE)", "FALSE");
        worth("AND(FALSE,FALSE)", "FALSE");
        worth("AND(-1,5)", "TRUE");
        worth("AND(1,0)", "FALSE");
        worth("AND(A2,1)", "FALSE");
    }

    private static void or() {
        worth("OR(TRUE,TRUE)", "TRUE");
        worth("OR(TRUE,FALSE)", "TRUE");
        worth("OR(FALSE,TRUE)", "TRUE");
        worth("OR(FALSE,FALSE)", "FALSE");
        worth("OR(0,-1)", "TRUE");
        worth("OR(A2,B2)", "FALSE");
    }

    private static void not() {
        worth("NOT(TRUE)", "FALSE");
        worth("NOT(FALSE)", "TRUE");
        worth("NOT(5)", "FALSE");
        worth("NOT(A2)", "TRUE");
    }

    private static void ifOnlyTaken() {
        worth("IF(TRUE,1,E1)", "1");
        worth("IF(FALSE,E1,2)", "2");
        worth("IF(TRUE,E1,2)", "#div");
        worth("IF(FALSE,1,NA())", "#none");
        worth("IF(E1,1,NA())", "#div");
        worth("IF(\"x\",E1,NA())", "#value");
        worth("IF(1,IF(0,E1,\"in\"),E1)", "'in'");
        worth("ISBLANK(IF(FALSE,1,A2))", "TRUE");
    }

    private static void ifError() {
        worth("IFERROR(1,2)", "1");
        worth("IFERROR(E1,2)", "2");
        worth("IFERROR(1,E1)", "1");
        worth("IFERROR(E1,NA())", "#none");
        worth("IFERROR(\"\",2)", "''");
        worth("ISBLANK(IFERROR(A2,2))", "TRUE");
        worth("ISBLANK(IFERROR(E1,A2))", "TRUE");
        for (String error : new String[] {"NO()", "ABS()", "E1", "2^63", "NA()", "INDEX(A1,2,1)"}) {
            worth("IFERROR(" + error + ",7)", "7");
        }
    }

    private static void choose() {
        worth("CHOOSE(1,\"a\",E1,E1)", "'a'");
        worth("CHOOSE(2,E1,\"b\",E1)", "'b'");
        worth("CHOOSE(3,E1,E1,\"c\")", "'c'");
        worth("CHOOSE(2,1,E1,3)", "#div");
        worth("CHOOSE(\"3\",1,2,\"c\")", "'c'");
        worth("CHOOSE(TRUE,1,2,3)", "1");
        worth("ISBLANK(CHOOSE(3,1,2,A2))", "TRUE");
        worth("CHOOSE(E1,1,2,NA())", "#div");
    }

    private static void chooseOutOfRange() {
        for (String n : new String[] {"0", "4", "-1", "A2", "FALSE", "4294967297", MOST, LOW}) {
            worth("CHOOSE(" + n + ",1,2,3)", "#value");
        }
        worth("CHOOSE(C1,1,2,3)", "#value");
        worth("CHOOSE(0,E1,E1,E1)", "#value");
        worth("CHOOSE(4,E1,E1,E1)", "#value");
    }

    private static void asking() {
        String[] values = {"A2", "5", "\"\"", "\"5\"", "TRUE", "C1", "A1", "IF(TRUE,A2,1)"};
        String[] numbers = {"FALSE", "TRUE", "FALSE", "FALSE", "FALSE", "FALSE", "TRUE", "FALSE"};
        String[] texts = {"FALSE", "FALSE", "TRUE", "TRUE", "FALSE", "TRUE", "FALSE", "FALSE"};
        String[] blanks = {"TRUE", "FALSE", "FALSE", "FALSE", "FALSE", "FALSE", "FALSE", "TRUE"};
        for (int i = 0; i < values.length; i++) {
            worth("ISERROR(" + values[i] + ")", "FALSE");
            worth("ISNUMBER(" + values[i] + ")", numbers[i]);
            worth("ISTEXT(" + values[i] + ")", texts[i]);
            worth("ISBLANK(" + values[i] + ")", blanks[i]);
        }
    }

    private static void askingOfErrors() {
        for (String error : new String[] {"E1", "NO()", "ABS()", "2^63", "NA()", "INDEX(A1,2,1)"}) {
            worth("ISERROR(" + error + ")", "TRUE");
            worth("ISNUMBER(" + error + ")", "FALSE");
            worth("ISTEXT(" + error + ")", "FALSE");
            worth("ISBLANK(" + error + ")", "FALSE");
        }
    }

    private static void abs() {
        worth("ABS(" + LOW + ")", "#num");
        worth("ABS(-" + MOST + ")", MOST);
        worth("ABS(" + MOST + ")", MOST);
        worth("ABS(0)", "0");
        worth("ABS(-1)", "1");
        worth("ABS(A2)", "0");
        worth("ABS(\"-7\")", "7");
        worth("ABS(C1)", "#value");
    }

    private static void sign() {
        worth("SIGN(0)", "0");
        worth("SIGN(1)", "1");
        worth("SIGN(-1)", "-1");
        worth("SIGN(" + MOST + ")", "1");
        worth("SIGN(" + LOW + ")", "-1");
        worth("SIGN(4294967296)", "1");
        worth("SIGN(A2)", "0");
        worth("SIGN(C1)", "#value");
    }

    private static void mod() {
        worth("MOD(7,3)", "1");
        worth("MOD(-7,3)", "2");
        worth("MOD(7,-3)", "-2");
        worth("MOD(-7,-3)", "-1");
        worth("MOD(6,3)", "0");
        worth("MOD(-6,3)", "0");
        worth("MOD(6,-3)", "0");
        worth("MOD(0,5)", "0");
        worth("MOD(2,5)", "2");
        worth("MOD(-2,5)", "3");
        worth("MOD(2,-5)", "-3");
    }

    private static void modOfAnySize() {
        worth("MOD(" + LOW + ",-1)", "0");
        worth("MOD(" + LOW + ",1)", "0");
        worth("MOD(" + LOW + "," + MOST + ")", "9223372036854775806");
        worth("MOD(" + MOST + "," + LOW + ")", "-1");
        worth("MOD(1," + LOW + ")", "-9223372036854775807");
        worth("MOD(" + LOW + "," + LOW + ")", "0");
        worth("MOD(-1," + MOST + ")", "9223372036854775806");
    }

    private static void modByZero() {
        worth("MOD(7,0)", "#div");
        worth("MOD(0,0)", "#div");
        worth("MOD(" + LOW + ",A2)", "#div");
        worth("MOD(C1,0)", "#value");
    }

    private static void len() {
        worth("LEN(\"\")", "0");
        worth("LEN(A2)", "0");
        worth("LEN(\" \")", "1");
        worth("LEN(D1)", "64");
        worth("LEN(" + LOW + ")", "20");
        worth("LEN(0)", "1");
        worth("LEN(FALSE)", "5");
        worth("LEN(E1)", "#div");
    }

    private static void cases() {
        worth("UPPER(\"`abyz{@AZ[09\")", "'`ABYZ{@AZ[09'");
        worth("LOWER(\"`az{@ABYZ[09\")", "'`az{@abyz[09'");
        worth("UPPER(A2)", "''");
        worth("LOWER(TRUE)", "'true'");
        worth("UPPER(D1)", "'" + "X".repeat(64) + "'");
        worth("LOWER(-5)", "'-5'");
    }

    private static void left() {
        worth("LEFT(\"hello\",0)", "''");
        worth("LEFT(\"hello\",1)", "'h'");
        worth("LEFT(\"hello\",5)", "'hello'");
        worth("LEFT(\"hello\",6)", "'hello'");
        worth("LEFT(\"hello\"," + MOST + ")", "'hello'");
        worth("LEFT(\"hello\",4294967297)", "'hello'");
        worth("LEFT(\"hello\",-1)", "#value");
        worth("LEFT(\"hello\"," + LOW + ")", "#value");
        worth("LEFT(\"\",-1)", "#value");
        worth("LEFT(\"\",3)", "''");
        worth("LEFT(123,2)", "'12'");
        worth("LEFT(\"hello\",A2)", "''");
        worth("LEFT(\"hello\",C1)", "#value");
    }

    private static void right() {
        worth("RIGHT(\"hello\",0)", "''");
        worth("RIGHT(\"hello\",1)", "'o'");
        worth("RIGHT(\"hello\",5)", "'hello'");
        worth("RIGHT(\"hello\",6)", "'hello'");
        worth("RIGHT(\"hello\"," + MOST + ")", "'hello'");
        worth("RIGHT(\"hello\",4294967297)", "'hello'");
        worth("RIGHT(\"hello\",-1)", "#value");
        worth("RIGHT(\"hello\"," + LOW + ")", "#value");
        worth("RIGHT(\"\",3)", "''");
        worth("RIGHT(-12,2)", "'12'");
        worth("RIGHT(\"hello\",C1)", "#value");
    }

    private static void mid() {
        worth("MID(\"hello\",1,2)", "'he'");
        worth("MID(\"hello\",5,1)", "'o'");
        worth("MID(\"hello\",5,2)", "'o'");
        worth("MID(\"hello\",6,1)", "''");
        worth("MID(\"hello\",9,1)", "''");
        worth("MID(\"hello\",2,0)", "''");
        worth("MID(\"hello\",2,4)", "'ello'");
        worth("MID(\"hello\",2," + MOST + ")", "'ello'");
        worth("MID(\"hello\"," + MOST + "," + MOST + ")", "''");
        worth("MID(\"hello\",4294967297,1)", "''");
        worth("MID(\"\",1,1)", "''");
        worth("MID(D1,64,1)", "'x'");
        worth("MID(D1,65,1)", "''");
    }

    private static void midBelow() {
        worth("MID(\"hello\",0,1)", "#value");
        worth("MID(\"hello\",-1,1)", "#value");
        worth("MID(\"hello\"," + LOW + ",1)", "#value");
        worth("MID(\"hello\",1,-1)", "#value");
        worth("MID(\"hello\",9,-1)", "#value");
        worth("MID(\"hello\",1," + LOW + ")", "#value");
        worth("MID(\"hello\",C1,1)", "#value");
        worth("MID(\"hello\",1,C1)", "#value");
    }

    private static void find() {
        worth("FIND(\"h\",\"hello\")", "1");
        worth("FIND(\"l\",\"hello\")", "3");
        worth("FIND(\"o\",\"hello\")", "5");
        worth("FIND(\"hello\",\"hello\")", "1");
        worth("FIND(\"aab\",\"aaab\")", "2");
        worth("FIND(\"y\"," + "\"" + "x".repeat(63) + "y\")", "64");
        worth("FIND(D1,D1)", "1");
        worth("FIND(2,123)", "2");
    }

    private static void findNoByte() {
        worth("FIND(\"\",\"hello\")", "1");
        worth("FIND(\"\",\"\")", "1");
        worth("FIND(A2,\"x\")", "1");
    }

    private static void findNotThere() {
        worth("FIND(\"x\",\"hello\")", "#value");
        worth("FIND(\"L\",\"hello\")", "#value");
        worth("FIND(\"lox\",\"hello\")", "#value");
        worth("FIND(\"hellos\",\"hello\")", "#value");
        worth("FIND(\"x\",\"\")", "#value");
        worth("FIND(\"x\",A2)", "#value");
    }

    private static void replace() {
        worth("REPLACE(\"hello\",\"l\",\"L\")", "'heLLo'");
        worth("REPLACE(\"hello\",\"hello\",\"\")", "''");
        worth("REPLACE(\"hello\",\"x\",\"y\")", "'hello'");
        worth("REPLACE(\"aaa\",\"aa\",\"b\")", "'ba'");
        worth("REPLACE(\"aaaa\",\"aa\",\"a\")", "'aa'");
        worth("REPLACE(\"abab\",\"ab\",\"aab\")", "'aabaab'");
        worth("REPLACE(\"\",\"x\",\"y\")", "''");
        worth("REPLACE(D1,\"x\",\"\")", "''");
        worth("REPLACE(D1,\"x\",\"y\")", "'" + "y".repeat(64) + "'");
        worth("REPLACE(11,1,23)", "'2323'");
    }

    private static void replaceNoByte() {
        worth("REPLACE(\"hello\",\"\",\"x\")", "'hello'");
        worth("REPLACE(\"\",\"\",\"x\")", "''");
        worth("REPLACE(\"hello\",A2,\"x\")", "'hello'");
    }

    private static void replaceTooLong() {
        worth("REPLACE(\"a\",\"a\",D1)", "'" + "x".repeat(64) + "'");
        worth("REPLACE(\"ab\",\"a\",D1)", "#value");
        worth("REPLACE(\"ba\",\"a\",D1)", "#value");
        worth("REPLACE(\"aa\",\"a\",D1)", "#value");
        worth("LEN(REPLACE(LEFT(D1,32),\"x\",\"yy\"))", "64");
        worth("REPLACE(LEFT(D1,33),\"x\",\"yy\")", "#value");
        worth("REPLACE(D1,\"xx\",\"yyy\")", "#value");
        worth("REPLACE(D1,\"a\",D1)", "'" + "x".repeat(64) + "'");
    }

    private static void na() {
        worth("NA()", "#none");
        worth("NA( )", "#none");
        worth("NA()&\"x\"", "#none");
    }
}
