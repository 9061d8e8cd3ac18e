/** The boundary cases of the term FORMULA, a test for each: TOKENS, EXPR, REF, NAME, RANGE, DEPTH. */
public final class EdgesOfFormulasTest {
    private static final String MOST = "9223372036854775807";

    public static void main(String[] args) {
        Check.sentence("TOKENS, spaces between them or none", EdgesOfFormulasTest::spacesBetween);
        Check.sentence("no spaces within a TOKEN", EdgesOfFormulasTest::spacesWithin);
        Check.sentence("no TOKEN at all: SYNTAX", EdgesOfFormulasTest::noToken);
        Check.sentence("digits that make a long", EdgesOfFormulasTest::digits);
        Check.sentence("two PRIMARIES have an operator between them", EdgesOfFormulasTest::sideBySide);
        Check.sentence("a STRING: bytes but \", at most 64: none, 64, 65", EdgesOfFormulasTest::stringLengths);
        Check.sentence("a STRING: then \"", EdgesOfFormulasTest::stringEnds);
        Check.sentence("REF: a letter A .. Z", EdgesOfFormulasTest::refLetters);
        Check.sentence("REF: a number 1 .. 200", EdgesOfFormulasTest::refNumbers);
        Check.sentence("REF: without 0 before it", EdgesOfFormulasTest::refZeros);
        Check.sentence("REF: perhaps $", EdgesOfFormulasTest::refDollars);
        Check.sentence("Letters and digits are taken as many as there are (A1B is none)", EdgesOfFormulasTest::asManyAsThere);
        Check.sentence("NAME: 2 to 12 letters", EdgesOfFormulasTest::nameLengths);
        Check.sentence("NAME: capital letters", EdgesOfFormulasTest::nameLetters);
        Check.sentence("NAME: not TRUE, FALSE", EdgesOfFormulasTest::trueAndFalse);
        Check.sentence("NAME '('", EdgesOfFormulasTest::nameWithoutOpen);
        Check.sentence("arguments with , between, or none", EdgesOfFormulasTest::arguments);
        Check.sentence("'(' EXPR ')'", EdgesOfFormulasTest::brackets);
        Check.sentence("A RANGE stands as an argument alone", EdgesOfFormulasTest::rangeAlone);
        Check.sentence("behind a RANGE just , or ) may stand", EdgesOfFormulasTest::behindRange);
        Check.sentence("a RANGE: REF ':' REF", EdgesOfFormulasTest::rangeCorners);
        Check.sentence("each from the left", EdgesOfFormulasTest::fromTheLeft);
        Check.sentence("the loosest first", EdgesOfFormulasTest::loosestFirst);
        Check.sentence("the loosest first, each from the left: any two signs", EdgesOfFormulasTest::anyTwoSigns);
        Check.sentence("then - before it; then % behind it", EdgesOfFormulasTest::minusAndPercent);
        Check.sentence("% behind it, any number of times", EdgesOfFormulasTest::percents);
        Check.sentence("an operator has both its operands", EdgesOfFormulasTest::operands);
        Check.sentence("DEPTH: the ( that a TOKEN is in; at most 20", EdgesOfFormulasTest::depthOfBrackets);
        Check.sentence("DEPTH: the ( of a call, too", EdgesOfFormulasTest::depthOfCalls);
        Check.sentence("DEPTH: of arguments of which one is taken", EdgesOfFormulasTest::depthOfPicks);
        Check.sentence("DEPTH: ( and its ) are not in it", EdgesOfFormulasTest::depthOfNothing);
        Check.sentence("DEPTH: the - before it; at most 20", EdgesOfFormulasTest::depthOfMinus);
        Check.sentence("DEPTH: ( and - together", EdgesOfFormulasTest::depthOfBoth);
        Check.sentence("DEPTH: a - that it's not part of what's behind", EdgesOfFormulasTest::depthBesideMinus);
        Check.sentence("DEPTH: a RANGE's TOKENS, too", EdgesOfFormulasTest::depthOfRanges);
        Check.sentence("At most 100 TOKENS: 100", EdgesOfFormulasTest::hundredTokens);
        Check.sentence("At most 100 TOKENS: 101", EdgesOfFormulasTest::oneTokenMore);
        Check.sentence("All else: SYNTAX: other bytes", EdgesOfFormulasTest::otherBytes);
        Check.sentence("SYNTAX: there are no REFS", EdgesOfFormulasTest::syntaxHasNoRefs);
        Check.finish();
    }

    /** A1 is 3, B1 is 4. */
    private static void worth(String formula, String due) {
        Sheet sheet = new Sheet();
        sheet.put("A1", "3");
        sheet.put("B1", "4");
        Check.same(formula, sheet.worth("D5", "=" + formula), due);
    }

    private static void syntax(String... formulas) {
        for (String formula : formulas) {
            worth(formula, "#syntax");
        }
    }

    private static String within(int many, String inner) {
        return "(".repeat(many) + inner + ")".repeat(many);
    }

    private static void spacesBetween() {
        worth("1+2*A1", "7");
        worth(" 1 + 2 * A1 ", "7");
        worth("  SUM  (  A1  :  B1  )  %  ", "0");
        worth("IF(TRUE,1,2)", "1");
        worth("IF ( TRUE , 1 , 2 )", "1");
        worth("- - 5", "5");
        worth("\" a \" & 1", "' a 1'");
    }

    private static void spacesWithin() {
        syntax("1 2", "A 1", "$ A1", "A$ 1", "SU M(A1)", "TR UE", "1 < > 2", "1 < = 2", "1 > = 2");
        worth("1 <> 2", "TRUE");
        worth("1 <= 2", "TRUE");
        worth("1 >= 2", "FALSE");
    }

    private static void noToken() {
        syntax("", " ", "   ");
    }

    private static void digits() {
        worth("0", "0");
        worth("007", "7");
        worth(MOST, MOST);
        worth("0" + MOST, MOST);
        syntax("9223372036854775808", "-9223372036854775808", "18446744073709551617", "99999999999999999999");
        worth("-" + MOST, "-" + MOST);
        syntax("1.5", "1e5", "5A");
    }

    private static void sideBySide() {
        syntax("1 2", "1 2 3", "\"a\" \"b\"", "\"a\" \"b\" \"c\"", "A1 B1", "A1 B1 A1", "TRUE FALSE", "TRUE FALSE TRUE",
                "1 TRUE 2", "1 A1 2", "1 NO 2", "NA() NA()", "1 NA() 2", "1 \"a\" 2", "1 : 2", "1 , 2", ":", ",", "SUM(A1 1 B1)",
                "5(", "%5)", "5(%");
    }

    private static void stringLengths() {
        worth("\"\"", "''");
        worth("\"x\"", "'x'");
        worth("\"" + "s".repeat(64) + "\"", "'" + "s".repeat(64) + "'");
        syntax("\"" + "s".repeat(65) + "\"", "LEN(\"" + "s".repeat(65) + "\")");
        worth("\" ~\"", "' ~'");
        worth("\"=1+(A1,'x')\"", "'=1+(A1,'x')'");
    }

    private static void stringEnds() {
        syntax("\"", "\"x", "x\"", "\"\"\"", "\"a\"\"b\"", "\"a\"b\"", "\"" + "s".repeat(64));
    }

    private static void refLetters() {
        worth("A1", "3");
        worth("Z1", "0");
        syntax("a1", "z1", "@1", "[1", "AA1", "AZ1");
    }

    private static void refNumbers() {
        worth("A1", "3");
        worth("A200", "0");
        worth("A99", "0");
        syntax("A0", "A201", "A209", "A210", "A300", "A999", "A1000", "A4294967297", "A18446744073709551617", "A");
    }

    private static void refZeros() {
        worth("A10", "0");
        worth("A100", "0");
        syntax("A01", "A00", "A001", "A$01", "A0200");
    }

    private static void refDollars() {
        worth("$A1", "3");
        worth("A$1", "3");
        worth("$A$1", "3");
        worth("$Z$200", "0");
        syntax("$$A1", "A$$1", "A1$", "$", "$A", "A$", "$1", "$A$", "A$1$", "$TRUE", "$SUM(A1)", "$A$0", "$A$201");
    }

    private static void asManyAsThere() {
        syntax("A1B", "A1B1", "1A1", "A1A", "5TRUE", "TRUE5", "TRUEA1", "SUMA1(A1)", "A1SUM(A1)", "A1TRUE", "12A");
        worth("TRUEX()", "#name");
        worth("SUMSUM(A1)", "#name");
    }

    private static void nameLengths() {
        syntax("N()", "A()", "Z(1)");
        worth("NO()", "#name");
        worth("OR(0,1)", "TRUE");
        worth("ABCDEFGHIJKL()", "#name");
        syntax("ABCDEFGHIJKLM()", "ABCDEFGHIJKLMNOPQRSTUVWXYZ()");
    }

    private static void nameLetters() {
        syntax("sum(A1)", "Sum(A1)", "SUm(A1)", "SUM1(A1)", "S_M(A1)", "true", "False", "TRUe");
        worth("SUM(A1)", "3");
    }

    private static void trueAndFalse() {
        worth("TRUE", "TRUE");
        worth("FALSE", "FALSE");
        syntax("TRUE()", "FALSE()", "TRUE(1)", "FALSE(A1)");
    }

    private static void nameWithoutOpen() {
        syntax("SUM", "NO", "SUM+1", "SUM A1", "SUM)", "SUM:A1", "1+NA");
    }

    private static void arguments() {
        worth("NA()", "#none");
        worth("NO(1)", "#name");
        worth("NO(1,2,3,4,5,6,7,8,9,A1:B1)", "#name");
        syntax("NA(", "NA(1", "NA(,)", "NA(1,)", "NA(,1)", "NA(1,,2)", "NA(1 2)", "NA(1;2)", "NA())", "NA()()", "1,2");
    }

    private static void brackets() {
        worth("(5)", "5");
        worth("((5))", "5");
        syntax("()", "(", ")", "(5", "5)", "(5))", "((5)", ")5(", "(5)(5)", "5(5)", "(5)5", "(1,2)");
    }

    private static void rangeAlone() {
        worth("SUM(A1:B1)", "7");
        syntax("A1:B1", "(A1:B1)", "A1:B1+1", "1+A1:B1", "-A1:B1", "SUM((A1:B1))", "SUM(1+A1:B1)", "SUM(-A1:B1)");
    }

    private static void behindRange() {
        worth("COUNTIF(A1:B1,3)", "1");
        worth("SUM(A1:B1)", "7");
        syntax("SUM(A1:B1+1)", "SUM(A1:B1%)", "SUM(A1:B1:C1)", "SUM(A1:B1=1)", "SUM(A1:B1&1)", "SUM(A1:B1 1)", "SUM(A1:B1");
    }

    private static void rangeCorners() {
        worth("SUM(B1:A1)", "7");
        worth("SUM(A1:A1)", "3");
        worth("ROWS(A1:Z200)", "#cycle");
        syntax("SUM(A1:)", "SUM(:A1)", "SUM(A1:1)", "SUM(1:A1)", "SUM(A:B)", "SUM(1:2)", "SUM(A1:(B1))", "SUM((A1):B1)",
                "SUM(A1:-B1)", "SUM(A1:B0)", "SUM(A1:B201)", "SUM(A1::B1)", "SUM(A1:\"B1\")", "SUM(A1:TRUE)");
    }

    private static void fromTheLeft() {
        worth("10-4-3", "3");
        worth("10-4+3", "9");
        worth("100/5/2", "10");
        worth("7/2*2", "6");
        worth("2^3^2", "64");
        worth("1&2&3", "'123'");
        worth("1=1=1", "FALSE");
        worth("3>2=TRUE", "TRUE");
        worth("1<2<3", "FALSE");
        worth("2<>3<=TRUE", "TRUE");
    }

    private static void loosestFirst() {
        worth("1&2=12", "FALSE");
        worth("\"12\"=1&2", "TRUE");
        worth("1&2+3", "'15'");
        worth("1+2&3", "'33'");
        worth("2+3*4", "14");
        worth("2*3+4", "10");
        worth("12-6/2", "9");
        worth("2*3^2", "18");
        worth("2^3*2", "16");
        worth("(2+3)*4", "20");
    }

    private static String value(String formula) {
        return new Sheet().worth("D5", "=" + formula);
    }

    /** Two signs without brackets are worth what they are with brackets where they bind; some operands tell which. */
    private static void anyTwoSigns() {
        String[] signs = {"=", "<>", "<", "<=", ">", ">=", "&", "+", "-", "*", "/", "^"};
        int[] tightness = {1, 1, 1, 1, 1, 1, 2, 3, 3, 4, 4, 5};
        String[][] operands = {
            {"2", "3", "2"}, {"7", "2", "3"}, {"\"12\"", "1", "2"}, {MOST, "1", "1"}, {"1", "TRUE", "FALSE"},
            {"FALSE", "1", "TRUE"}, {"TRUE", "FALSE", "1"}, {"TRUE", "1", "FALSE"}, {"FALSE", "FALSE", "1"}, {"TRUE", "2", "1"}
        };
        for (int i = 0; i < signs.length; i++) {
            for (int k = 0; k < signs.length; k++) {
                boolean told = i == k;
                for (String[] o : operands) {
                    String left = "(" + o[0] + signs[i] + o[1] + ")" + signs[k] + o[2];
                    String right = o[0] + signs[i] + "(" + o[1] + signs[k] + o[2] + ")";
                    String due = value(tightness[i] >= tightness[k] ? left : right);
                    Check.same(o[0] + signs[i] + o[1] + signs[k] + o[2], value(o[0] + signs[i] + o[1] + signs[k] + o[2]), due);
                    told = told || !value(left).equals(value(right));
                }
                Check.same("the operands tell how " + signs[i] + " and " + signs[k] + " bind", told, true);
            }
        }
    }

    private static void minusAndPercent() {
        worth("-2^2", "4");
        worth("0-2^2", "-4");
        worth("2^-0", "1");
        worth("2^-1", "#num");
        worth("2--3", "5");
        worth("2*-3", "-6");
        worth("-300%", "-3");
        worth("2^300%", "8");
        worth("-A1", "-3");
        worth("-(-3)", "3");
        syntax("-", "--", "1-", "%", "%1", "1%2", "1%%2", "+1", "1++1", "1*+1");
        worth("1%-2", "-2");
        worth("1%--2", "2");
    }

    private static void percents() {
        worth("5%", "0");
        worth("70000%%", "7");
        worth("7000000%%%", "7");
        worth(MOST + "%".repeat(8), "922");
        worth(MOST + "%".repeat(99), "0");
        worth("(500%)%", "0");
    }

    private static void operands() {
        for (String sign : new String[] {"=", "<>", "<", "<=", ">", ">=", "&", "+", "-", "*", "/", "^"}) {
            syntax("1" + sign);
            if (!sign.equals("-")) {
                syntax(sign + "1", "1" + sign + sign + "1", "(" + sign + ")");
            }
        }
        syntax("1=>2", "1=<2", "1><2", "1!=2", "1==2", "1<<2", "1**2");
    }

    private static void depthOfBrackets() {
        worth(within(19, "1"), "1");
        worth(within(20, "1"), "1");
        syntax(within(21, "1"), within(49, "1"));
        worth(within(20, "1") + "+" + within(20, "2"), "3");
        syntax("1+" + within(21, "1"), within(20, "1+(1)"));
    }

    private static void depthOfCalls() {
        worth("ABS(".repeat(20) + "1" + ")".repeat(20), "1");
        syntax("ABS(".repeat(21) + "1" + ")".repeat(21));
        worth(within(19, "ABS(1)"), "1");
        syntax(within(20, "ABS(1)"), within(20, "NOSUCH(1)"));
        worth("IF(TRUE,1," + within(19, "1") + ")", "1");
        syntax("IF(TRUE,1," + within(20, "1") + ")");
    }

    private static void depthOfPicks() {
        worth(within(19, "IF(FALSE,1,2)"), "2");
        worth(within(19, "CHOOSE(3,1,2,3)"), "3");
        worth(within(19, "IFERROR(1/0,4)"), "4");
        syntax(within(20, "IF(TRUE,1,2)"), within(20, "CHOOSE(1,1,2,3)"), within(20, "IFERROR(1,2)"));
        worth("IF(1,".repeat(14) + "7" + ",0)".repeat(14), "7");
        worth("CHOOSE(3,1,2,CHOOSE(2,3,CHOOSE(1,4,5,6),7))", "4");
    }

    private static void depthOfNothing() {
        worth(within(20, "NA()"), "#none");
        worth("-".repeat(20) + "NA()", "#none");
        syntax(within(21, "NA()"), within(21, ""), "-".repeat(21) + "NA()");
    }

    private static void depthOfMinus() {
        worth("-".repeat(19) + "1", "-1");
        worth("-".repeat(20) + "1", "1");
        syntax("-".repeat(21) + "1", "-".repeat(99) + "1");
        worth("- ".repeat(20) + "1", "1");
        worth("1" + "-".repeat(21) + "1", "0");
        syntax("1" + "-".repeat(22) + "1");
    }

    private static void depthOfBoth() {
        worth("-".repeat(10) + within(10, "1"), "1");
        syntax("-".repeat(10) + within(11, "1"), "-".repeat(11) + within(10, "1"));
        worth("(-".repeat(10) + "1" + ")".repeat(10), "1");
        syntax("(-".repeat(10) + "-1" + ")".repeat(10), "(-".repeat(10) + "(1)" + ")".repeat(10));
        worth(within(19, "-1"), "-1");
        syntax(within(20, "-1"), "-" + within(20, "1"));
        worth(within(20, "1-1"), "0");
    }

    private static void depthBesideMinus() {
        worth("-".repeat(20) + "1+" + "-".repeat(20) + "1", "2");
        worth("-".repeat(20) + "1*" + within(20, "1"), "1");
        worth("-".repeat(20) + "1^-" + within(19, "0"), "1");
        worth("-1-1" + "-1".repeat(46), "-48");
        worth("-1*-1" + "*-1".repeat(30), "1");
        worth("-".repeat(20) + "300%", "3");
    }

    private static void depthOfRanges() {
        worth(within(19, "SUM(A1:B1)"), "7");
        worth(within(19, "SUM(A1)"), "3");
        syntax(within(20, "SUM(A1:B1)"), within(20, "SUM(A1)"), within(20, "NOSUCH(A1:B1)"));
    }

    private static void hundredTokens() {
        worth("1" + "+1".repeat(49), "50");
        worth("-1" + "+1".repeat(49), "48");
        worth("1" + "%".repeat(99), "0");
        worth("\"\"" + "&\"\"".repeat(48) + "&-5", "'-5'");
        worth("NOSUCH(" + "1,".repeat(48) + "1)", "#name");
        worth("SUM(A1:B1)" + "+0".repeat(47), "7");
        worth(within(1, "1" + "+1".repeat(48)) + "%", "0");
        worth("1 " + " +  1".repeat(39) + " %", "39");
    }

    private static void oneTokenMore() {
        syntax("1" + "+1".repeat(50), "-1" + "+1".repeat(49) + "%", "1" + "%".repeat(100));
        syntax("NOSUCH(" + "1,".repeat(48) + "1)%", "-SUM(A1:B1)" + "+0".repeat(47));
        syntax("-" + within(1, "1" + "+1".repeat(48)) + "%", "\"\"" + "&\"\"".repeat(48) + "&--5");
        Sheet sheet = new Sheet();
        Check.same("100", sheet.worth("D5", "=1" + "+1".repeat(49) + "%"), "49");
        Check.same("101 behind it", sheet.worth("D5", "=-1" + "+1".repeat(49) + "%"), "#syntax");
        Check.same("and 100 again", sheet.worth("D5", "=-1" + "+1".repeat(49)), "48");
    }

    private static void otherBytes() {
        for (char c : "!#'.;?@[\\]_`{|}~abcxyz".toCharArray()) {
            syntax(String.valueOf(c), "1" + c, c + "1", "1" + c + "2", "A1" + c);
        }
    }

    private static void syntaxHasNoRefs() {
        Sheet sheet = new Sheet();
        sheet.put("A1", "=B1+A1+SUM(A1:B2)+");
        Check.same("it reads nothing", sheet.show("A1"), "#syntax");
        Check.same("how many", sheet.ledger.content(0, 0, 1) + " " + sheet.ledger.content(0, 0, 2), "0 0");
        Check.same("none", Sheet.of(() -> sheet.ledger.reference(0, 0, 0)), "NoSuchElementException");
        Check.same("no RANGES either", sheet.put("A2", "=ROWS(A1:Z200)" + "+ROWS(A1:Z200)".repeat(4) + "+"), "1");
        sheet.put("A3", "=B1+C1");
        Check.same("the next one has its own", sheet.refs("A3"), "B1 C1");
    }
}
