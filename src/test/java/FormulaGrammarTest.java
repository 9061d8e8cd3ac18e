/** Promise 4 and the term FORMULA: which TOKENS there are, how they bind, how deep and how many. */
public final class FormulaGrammarTest {
    public static void main(String[] args) {
        tokens();
        refs();
        binding();
        names();
        ranges();
        depth();
        manyTokens();
        longStrings();
        nothingOfEarlierInput();
        Check.finish();
    }

    private static void worth(String formula, String due) {
        Sheet sheet = new Sheet();
        sheet.put("A1", "3");
        sheet.put("B1", "4");
        Check.same(formula, sheet.worth("D5", "=" + formula), due);
    }

    private static void syntax(String... formulas) {
        for (String formula : formulas) {
            Sheet sheet = new Sheet();
            Check.same(formula, sheet.worth("D5", "=" + formula), "#syntax");
            Check.same(formula + " kind", sheet.ledger.content(3, 4, 0), 3);
            Check.same(formula + " refs", sheet.ledger.content(3, 4, 1), 0);
        }
    }

    private static void tokens() {
        worth("1", "1");
        worth("  1  ", "1");
        worth(" 1 + 2 ", "3");
        worth("007", "7");
        worth("9223372036854775807", "9223372036854775807");
        worth("00000000000000000000000000009223372036854775807", "9223372036854775807");
        worth("\"\"", "''");
        worth("\"a b=,(\"", "'a b=,('");
        worth("TRUE", "TRUE");
        worth(" FALSE ", "FALSE");
        worth("((1))", "1");
        worth("SUM (A1 : B1)", "7");
        worth("1<>2", "TRUE");
        worth("1<=2", "TRUE");
        worth("2>=3", "FALSE");
        worth("1<-2", "FALSE");
        worth("1=-1", "FALSE");
        syntax("", " ", "1 2", "1+", "+1", "*1", "(", ")", "()", "(1", "1)", "1+*2", "1,2", "9223372036854775808", "1.5",
                "'x'", "\"x", "x\"", "\"a\"\"b\"", "a", "A", "a1", "true", "True", "TRUE()", "1A", "A1B", "1e5", "#", "_",
                "!", "{1}", "[1]", "1;2", "1=", "=1", "< 1", "1 < > 2", "1 < = 2", "1=>2", "1><2", "1==2", "%", "%1",
                "1%2", "1^", "&", "-", "--", "1-", "$", "$1", "A$", ":", "A1:", ":A1", ",", "1:2", "A1 A2", "\\", "@A1",
                "1?2", "|", "~", "`", "A1!", "TRUE FALSE", "TRUEFALSE", "1TRUE", "A.1");
    }

    private static void refs() {
        worth("A1", "3");
        worth("$A1", "3");
        worth("A$1", "3");
        worth("$A$1", "3");
        worth("Z200", "0");
        worth("$Z$200", "0");
        worth("A10", "0");
        worth("A100", "0");
        syntax("A0", "A201", "A01", "A001", "A999", "A1000", "AA1", "$$A1", "A$$1", "A1$", "$A", "A$0", "$A$201", "1A1",
                "A1$1", "A 1", "$ A1", "A$ 1", "B-", "a$1", "A2A", "A1A1", "A20000000000000000000", "A200 A1");
    }

    private static void binding() {
        worth("2+3*4", "14");
        worth("2*3+4", "10");
        worth("10-4-3", "3");
        worth("100/5/2", "10");
        worth("2^3^2", "64");
        worth("2*3^2", "18");
        worth("-2^2", "4");
        worth("2^-1", "#num");
        worth("2^--1", "2");
        worth("0-2^2", "-4");
        worth("--3", "3");
        worth("- - -3", "-3");
        worth("-300%", "-3");
        worth("300%%", "0");
        worth("50000%%", "5");
        worth("2^300%", "8");
        worth("2*-3", "-6");
        worth("2--3", "5");
        worth("1&2+3", "'15'");
        worth("1+2&3", "'33'");
        worth("1&2=12", "FALSE");
        worth("1&2=\"12\"", "TRUE");
        worth("1=1=1", "FALSE");
        worth("1=1=TRUE", "TRUE");
        worth("1<2<3", "FALSE");
        worth("3>2=TRUE", "TRUE");
        worth("(2+3)*4", "20");
        worth("2^(3^2)", "512");
        worth("-(2^2)", "-4");
        worth("(1+1)%", "0");
        worth("7/2*2", "6");
        worth("A1%", "0");
        worth("-A1", "-3");
        worth("SUM(A1:B1)%+1", "1");
    }

    private static void names() {
        worth("NO()", "#name");
        worth("NOSUCHNAMEAB()", "#name");
        worth("NOSUCH(1,A1:B1,\"x\",)".replace(",)", ")"), "#name");
        worth("NOSUCH(1/0)", "#name");
        worth("NA()", "#none");
        worth("NA ( )", "#none");
        syntax("NOSUCHNAMEABC()", "SUM", "SUM+1", "NO", "N()", "SUM(", "SUM(A1", "SUM(A1:B1", "SUM(,)", "SUM(A1,)",
                "SUM(,A1)", "Sum(A1)", "sum(A1)", "SUM1(A1)", "SUM(A1))", "A1(1)", "TRUE(1)", "1(2)", "NA()()", "NA(1 2)",
                "NO(1+)", "$SUM(A1)", "IF(1;2;3)", "SUM(A1 B1)");
    }

    private static void ranges() {
        worth("SUM(A1:B1)", "7");
        worth("SUM(B1:A1)", "7");
        worth("SUM($A$1:$B$1)", "7");
        worth("SUM(A1:A1)", "3");
        worth("SUM(A1)", "3");
        worth("SUM((A1))", "#value");
        worth("SUM(A1+0)", "#value");
        worth("SUM(3)", "#value");
        worth("SUM(A1:B1,1)", "#value");
        worth("ABS(A1:B1)", "#value");
        worth("ISERROR(A1:B1)", "#value");
        worth("IFERROR(A1:B1,5)", "#value");
        worth("IF(TRUE,1,A1:B1)", "#value");
        worth("IFERROR(ABS(A1:B1),5)", "5");
        worth("MATCH(4,A1:B1)", "2");
        worth("MATCH(A1:B1,4)", "#value");
        syntax("A1:B1", "(A1:B1)", "SUM((A1:B1))", "SUM(A1:B1+1)", "SUM(A1:B1:C1)", "SUM(1+A1:B1)", "SUM(A1:1)",
                "SUM(A1:B)", "SUM(A1:)", "SUM(:A1)", "SUM(-A1:B1)", "SUM(A1:-B1)", "SUM(A1:B1%)", "A1:B1=1",
                "SUM(A1:(B1))", "SUM(A1:B201)", "SUM(A:B)", "SUM(1:2)");
    }

    private static void depth() {
        worth("(".repeat(20) + "1" + ")".repeat(20), "1");
        syntax("(".repeat(21) + "1" + ")".repeat(21));
        worth("-".repeat(20) + "1", "1");
        syntax("-".repeat(21) + "1");
        worth("-".repeat(10) + "(".repeat(10) + "1" + ")".repeat(10), "1");
        syntax("-".repeat(10) + "(".repeat(11) + "1" + ")".repeat(11));
        syntax("-".repeat(11) + "(".repeat(10) + "1" + ")".repeat(10));
        worth("(".repeat(20) + "NA()" + ")".repeat(20), "#none");
        syntax("(".repeat(20) + "ABS(1)" + ")".repeat(20));
        worth("(".repeat(19) + "ABS(1)" + ")".repeat(19), "1");
        worth("(".repeat(19) + "SUM(A1:B1)" + ")".repeat(19), "7");
        syntax("(".repeat(20) + "SUM(A1:B1)" + ")".repeat(20));
        syntax("(".repeat(20) + "NOSUCH(A1:B1)" + ")".repeat(20));
        syntax("(".repeat(20) + "-1" + ")".repeat(20));
        worth("(".repeat(20) + "1-1%" + ")".repeat(20), "1");
        worth("-".repeat(20) + "1%", "0");
        worth("-".repeat(20) + "1+" + "-".repeat(20) + "1", "2");
        worth("ABS(".repeat(20) + "1" + ")".repeat(20), "1");
        syntax("ABS(".repeat(21) + "1" + ")".repeat(21));
        worth("IF(1,".repeat(20) + "7" + ",0)".repeat(20), "#syntax");
        worth("IF(1,".repeat(14) + "7" + ",0)".repeat(14), "7");
        worth("(((1)))-(((1)))", "0");
    }

    private static void manyTokens() {
        worth("1" + "+1".repeat(49) + "%", "49");
        worth("(1" + "+1".repeat(48) + ")%", "0");
        worth("1" + "+1".repeat(49), "50");
        syntax("1" + "+1".repeat(50));
        worth("-" + "1" + "+1".repeat(49), "48");
        worth("1" + "%".repeat(99), "0");
        syntax("1" + "%".repeat(100));
        worth("NOSUCH(" + "1,".repeat(48) + "1)", "#name");
        syntax("NOSUCH(" + "1,".repeat(49) + "1)");
        worth("SUM(A1:B1)" + "+0".repeat(47), "7");
        syntax("SUM(A1:B1)" + "+0".repeat(48));
    }

    private static void nothingOfEarlierInput() {
        String[][] twos = {
            {"$A1", "$"}, {"A$1", "A$"}, {"A1", "A"}, {"\"x\"", "\"x"}, {"1<=2", "1<"}, {"A12", "A0"}, {"SUM(A1)", "SUM(A1"},
            {"1" + "%".repeat(99), "1" + "%".repeat(100)}
        };
        for (String[] two : twos) {
            Sheet sheet = new Sheet();
            sheet.put("D5", "=" + two[0]);
            boolean right = !sheet.show("D5").equals("#syntax");
            Check.same(two[0], right, true);
            Check.same(two[1], sheet.worth("D5", "=" + two[1]), "#syntax");
        }
        Sheet sheet = new Sheet();
        sheet.put("D5", "=1" + "+1".repeat(49) + "%");
        Check.same("101", sheet.worth("D5", "=-1" + "+1".repeat(49) + "%"), "#syntax");
    }

    private static void longStrings() {
        worth("\"" + "s".repeat(64) + "\"", "'" + "s".repeat(64) + "'");
        syntax("\"" + "s".repeat(65) + "\"");
        worth("LEN(\"" + " ".repeat(64) + "\")", "64");
        worth("\"" + "s".repeat(60) + "\"&\"" + "t".repeat(4) + "\"", "'" + "s".repeat(60) + "tttt'");
        worth("\"" + "s".repeat(60) + "\"&\"" + "t".repeat(5) + "\"", "#value");
    }
}
