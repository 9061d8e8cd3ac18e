/** The boundary cases of what operators are worth, a test for each: as NUMBER, TEXT, TRUTH; num, div, value. */
public final class EdgesOfOperatorsTest {
    private static final String MOST = "9223372036854775807";
    private static final String LEAST = "-9223372036854775808";
    private static final String LOW = "(-9223372036854775807-1)";
    private static final String S63 = "\"" + "s".repeat(63) + "\"";
    private static final String S64 = "\"" + "s".repeat(64) + "\"";

    public static void main(String[] args) {
        Check.sentence("an ERROR as operand is the outcome", EdgesOfOperatorsTest::errorIsTheOutcome);
        Check.sentence("of several ERRORS the first one", EdgesOfOperatorsTest::firstOfSeveral);
        Check.sentence("an ERROR goes before what an operand can't be", EdgesOfOperatorsTest::errorBeforeConversion);
        Check.sentence("As NUMBER: EMPTY 0", EdgesOfOperatorsTest::emptyAsNumber);
        Check.sentence("As NUMBER: TRUE 1, FALSE 0", EdgesOfOperatorsTest::truthAsNumber);
        Check.sentence("As NUMBER: a TEXT that would be TYPED a NUMBER", EdgesOfOperatorsTest::textAsNumber);
        Check.sentence("As NUMBER: others: ERROR value", EdgesOfOperatorsTest::otherTextAsNumber);
        Check.sentence("As TEXT: EMPTY no byte", EdgesOfOperatorsTest::emptyAsText);
        Check.sentence("As TEXT: digits, - before them", EdgesOfOperatorsTest::numberAsText);
        Check.sentence("As TEXT: TRUE, FALSE", EdgesOfOperatorsTest::truthAsText);
        Check.sentence("As TRUTH: NUMBERS but 0", EdgesOfOperatorsTest::numberAsTruth);
        Check.sentence("As TRUTH: EMPTY is FALSE", EdgesOfOperatorsTest::emptyAsTruth);
        Check.sentence("As TRUTH: TEXTS: ERROR value", EdgesOfOperatorsTest::textAsTruth);
        Check.sentence("+: ERROR num if it's no long", EdgesOfOperatorsTest::plus);
        Check.sentence("-: ERROR num if it's no long", EdgesOfOperatorsTest::minus);
        Check.sentence("*: ERROR num if it's no long", EdgesOfOperatorsTest::times);
        Check.sentence("- before: ERROR num if it's no long", EdgesOfOperatorsTest::minusBefore);
        Check.sentence("/: cut towards 0", EdgesOfOperatorsTest::cutTowardsZero);
        Check.sentence("/: by 0: div", EdgesOfOperatorsTest::byZero);
        Check.sentence("/: no long: num", EdgesOfOperatorsTest::quotientNoLong);
        Check.sentence("a ^ b: b below 0: num", EdgesOfOperatorsTest::powerBelowZero);
        Check.sentence("a ^ b: 1 for b 0", EdgesOfOperatorsTest::powerZero);
        Check.sentence("a ^ b: a times itself", EdgesOfOperatorsTest::powers);
        Check.sentence("a ^ b: no long: num", EdgesOfOperatorsTest::powerNoLong);
        Check.sentence("a ^ b: 0, 1 and -1 however often", EdgesOfOperatorsTest::smallPowers);
        Check.sentence("a %: a / 100", EdgesOfOperatorsTest::percent);
        Check.sentence("&: above 64 bytes: ERROR value", EdgesOfOperatorsTest::join);
        Check.sentence("Comparisons: EMPTY is as 0, no byte, or FALSE", EdgesOfOperatorsTest::compareEmpty);
        Check.sentence("Comparisons: both EMPTY: equal", EdgesOfOperatorsTest::compareBothEmpty);
        Check.sentence("Comparisons: a NUMBER is below a TEXT, that below a TRUTH", EdgesOfOperatorsTest::compareSorts);
        Check.sentence("Comparisons: TEXTS by bytes", EdgesOfOperatorsTest::compareTexts);
        Check.sentence("Comparisons: FALSE is below TRUE", EdgesOfOperatorsTest::compareTruths);
        Check.sentence("Comparisons: NUMBERS at both ends of a long", EdgesOfOperatorsTest::compareNumbers);
        Check.sentence("Comparisons: each sign below, at and above", EdgesOfOperatorsTest::compareSigns);
        Check.finish();
    }

    /** B1 and B2 are empty; C1 is text, D1 TRUE, E1 #div, F1 a TEXT of no byte, G1 the TEXT -7. */
    private static void worth(String formula, String due) {
        Sheet sheet = new Sheet();
        sheet.put("C1", "text");
        sheet.put("D1", "=TRUE");
        sheet.put("E1", "=1/0");
        sheet.put("F1", "=\"\"");
        sheet.put("G1", "=\"-7\"");
        Check.same(formula, sheet.worth("K9", "=" + formula), due);
    }

    private static void errorIsTheOutcome() {
        for (String sign : new String[] {"=", "<>", "<", "<=", ">", ">=", "&", "+", "-", "*", "/", "^"}) {
            worth("E1" + sign + "1", "#div");
            worth("1" + sign + "NA()", "#none");
        }
        worth("-E1", "#div");
        worth("NA()%", "#none");
        worth("E1", "#div");
        worth("NA()/0", "#none");
    }

    private static void firstOfSeveral() {
        for (String sign : new String[] {"=", "<>", "<", "<=", ">", ">=", "&", "+", "-", "*", "/", "^"}) {
            worth("E1" + sign + "NA()", "#div");
            worth("NA()" + sign + "E1", "#none");
        }
        worth("NOSUCH()+2^63+E1", "#name");
        worth("1+2^63*NA()", "#num");
    }

    private static void errorBeforeConversion() {
        worth("C1+NA()", "#none");
        worth("C1^E1", "#div");
        worth("NA()+C1", "#none");
    }

    private static void emptyAsNumber() {
        worth("B1+0", "0");
        worth("5-B1", "5");
        worth("B1*B1", "0");
        worth("-B1", "0");
        worth("B1%", "0");
        worth("B1^B1", "1");
        worth("1/B1", "#div");
    }

    private static void truthAsNumber() {
        worth("TRUE+TRUE", "2");
        worth("FALSE+0", "0");
        worth("-D1", "-1");
        worth("5/FALSE", "#div");
    }

    private static void textAsNumber() {
        worth("G1+0", "-7");
        worth("\"0\"+0", "0");
        worth("\"-0\"+0", "0");
        worth("\"007\"+0", "7");
        worth("\"" + MOST + "\"+0", MOST);
        worth("\"" + LEAST + "\"+0", LEAST);
        worth("\"" + "0".repeat(63) + "5\"+0", "5");
    }

    private static void otherTextAsNumber() {
        worth("\"9223372036854775808\"+0", "#value");
        worth("\"-9223372036854775809\"+0", "#value");
        for (String text : new String[] {"", "-", "--1", "+1", " 1", "1 ", "1.5", "=1", "TRUE", "x", "1x", "1-"}) {
            worth("\"" + text + "\"+0", "#value");
        }
        worth("F1+1", "#value");
        worth("1+C1", "#value");
        worth("1-C1", "#value");
        worth("C1*0", "#value");
        worth("C1/1", "#value");
        worth("1/C1", "#value");
        worth("C1^0", "#value");
        worth("1^C1", "#value");
        worth("-C1", "#value");
        worth("C1%", "#value");
        worth("C1/0", "#value");
    }

    private static void emptyAsText() {
        worth("B1&B2", "''");
        worth("B1&\"x\"&B2", "'x'");
        worth("F1&F1", "''");
    }

    private static void numberAsText() {
        worth("0&\"\"", "'0'");
        worth("-5&\"\"", "'-5'");
        worth("007&\"\"", "'7'");
        worth(MOST + "&\"\"", "'" + MOST + "'");
        worth(LOW + "&\"\"", "'" + LEAST + "'");
        worth("100&200", "'100200'");
    }

    private static void truthAsText() {
        worth("TRUE&\"\"", "'TRUE'");
        worth("\"\"&FALSE", "'FALSE'");
    }

    private static void numberAsTruth() {
        worth("NOT(0)", "TRUE");
        worth("NOT(1)", "FALSE");
        worth("NOT(-1)", "FALSE");
        worth("NOT(" + MOST + ")", "FALSE");
        worth("NOT(" + LOW + ")", "FALSE");
        worth("NOT(4294967296)", "FALSE");
        worth("IF(-1,1,2)", "1");
        worth("IF(0,1,2)", "2");
    }

    private static void emptyAsTruth() {
        worth("NOT(B1)", "TRUE");
        worth("IF(B1,1,2)", "2");
        worth("OR(B1,B2)", "FALSE");
        worth("AND(B1,TRUE)", "FALSE");
    }

    private static void textAsTruth() {
        for (String text : new String[] {"C1", "F1", "G1", "\"TRUE\"", "\"1\"", "\"\""}) {
            worth("NOT(" + text + ")", "#value");
            worth("IF(" + text + ",1,2)", "#value");
            worth("AND(FALSE," + text + ")", "#value");
            worth("OR(TRUE," + text + ")", "#value");
            worth("OR(" + text + ",TRUE)", "#value");
        }
    }

    private static void plus() {
        worth(MOST + "+0", MOST);
        worth("9223372036854775806+1", MOST);
        worth(MOST + "+1", "#num");
        worth("1+" + MOST, "#num");
        worth(MOST + "+" + MOST, "#num");
        worth(LOW + "+0", LEAST);
        worth(LOW + "+-1", "#num");
        worth(LOW + "+" + LOW, "#num");
        worth(LOW + "+" + MOST, "-1");
        worth(MOST + "+1-1", "#num");
    }

    private static void minus() {
        worth("-" + MOST + "-1", LEAST);
        worth("-" + MOST + "-2", "#num");
        worth(LOW + "-1", "#num");
        worth(MOST + "--1", "#num");
        worth("0-" + LOW, "#num");
        worth("-1-" + LOW, MOST);
        worth(LOW + "-" + LOW, "0");
        worth(LOW + "-" + MOST, "#num");
        worth(MOST + "-" + MOST, "0");
    }

    private static void times() {
        worth("3037000499*3037000499", "9223372030926249001");
        worth("3037000500*3037000500", "#num");
        worth("4294967296*4294967296", "#num");
        worth("4611686018427387904*2", "#num");
        worth("4611686018427387904*-2", LEAST);
        worth("-2*4611686018427387904", LEAST);
        worth("4611686018427387905*-2", "#num");
        worth(LOW + "*-1", "#num");
        worth("-1*" + LOW, "#num");
        worth(LOW + "*1", LEAST);
        worth("1*" + LOW, LEAST);
        worth(LOW + "*0", "0");
        worth("0*" + LOW, "0");
        worth(MOST + "*-1", "-" + MOST);
        worth(MOST + "*" + MOST, "#num");
        worth(LOW + "*" + LOW, "#num");
    }

    private static void minusBefore() {
        worth("-" + LOW, "#num");
        worth("--" + LOW, "#num");
        worth("-" + MOST, "-" + MOST);
        worth("-0", "0");
    }

    private static void cutTowardsZero() {
        worth("7/2", "3");
        worth("-7/2", "-3");
        worth("7/-2", "-3");
        worth("-7/-2", "3");
        worth("1/2", "0");
        worth("-1/2", "0");
        worth("0/5", "0");
        worth(LOW + "/2", "-4611686018427387904");
        worth(LOW + "/" + LOW, "1");
        worth(MOST + "/" + LOW, "0");
    }

    private static void byZero() {
        worth("5/0", "#div");
        worth("0/0", "#div");
        worth(LOW + "/0", "#div");
        worth("5/(1-1)", "#div");
        worth("5/\"0\"", "#div");
    }

    private static void quotientNoLong() {
        worth(LOW + "/-1", "#num");
        worth(LOW + "/1", LEAST);
        worth(MOST + "/-1", "-" + MOST);
        worth("(-" + MOST + ")/-1", MOST);
    }

    private static void powerBelowZero() {
        worth("2^-1", "#num");
        worth("1^-1", "#num");
        worth("0^-1", "#num");
        worth("(-1)^-2", "#num");
        worth("1^" + LOW, "#num");
    }

    private static void powerZero() {
        worth("5^0", "1");
        worth("0^0", "1");
        worth("(-5)^0", "1");
        worth(MOST + "^0", "1");
        worth(LOW + "^0", "1");
    }

    private static void powers() {
        worth("5^1", "5");
        worth("(-5)^1", "-5");
        worth("(-5)^2", "25");
        worth("(-5)^3", "-125");
        worth("2^62", "4611686018427387904");
        worth("(-2)^63", LEAST);
        worth("3^39", "4052555153018976267");
        worth("10^18", "1000000000000000000");
        worth("3037000499^2", "9223372030926249001");
        worth(LOW + "^1", LEAST);
        worth(MOST + "^1", MOST);
    }

    private static void powerNoLong() {
        worth("2^63", "#num");
        worth("2^64", "#num");
        worth("2^65", "#num");
        worth("2^4294967296", "#num");
        worth("2^" + MOST, "#num");
        worth("(-2)^64", "#num");
        worth("(-2)^65", "#num");
        worth("3^40", "#num");
        worth("10^19", "#num");
        worth("3037000500^2", "#num");
        worth(LOW + "^2", "#num");
        worth(MOST + "^2", "#num");
    }

    private static void smallPowers() {
        worth("0^1", "0");
        worth("0^" + MOST, "0");
        worth("1^" + MOST, "1");
        worth("(-1)^1", "-1");
        worth("(-1)^2", "1");
        worth("(-1)^63", "-1");
        worth("(-1)^64", "1");
        worth("(-1)^65", "-1");
        worth("(-1)^" + MOST, "-1");
        worth("(-1)^9223372036854775806", "1");
    }

    private static void percent() {
        worth("99%", "0");
        worth("100%", "1");
        worth("199%", "1");
        worth("-99%", "0");
        worth("(-199)%", "-1");
        worth(MOST + "%", "92233720368547758");
        worth(LOW + "%", "-92233720368547758");
    }

    private static void join() {
        worth(S63 + "&1", "'" + "s".repeat(63) + "1'");
        worth(S63 + "&12", "#value");
        worth("1&" + S63, "'1" + "s".repeat(63) + "'");
        worth(S64 + "&\"\"", "'" + "s".repeat(64) + "'");
        worth("\"\"&" + S64, "'" + "s".repeat(64) + "'");
        worth(S64 + "&B1", "'" + "s".repeat(64) + "'");
        worth(S64 + "&0", "#value");
        worth(S64 + "&" + S64, "#value");
        worth("LEN(" + S64 + "&\"x\")", "#value");
    }

    private static void compareEmpty() {
        worth("B1=0", "TRUE");
        worth("0=B1", "TRUE");
        worth("B1=\"\"", "TRUE");
        worth("\"\"=B1", "TRUE");
        worth("B1=FALSE", "TRUE");
        worth("FALSE=B1", "TRUE");
        worth("B1<1", "TRUE");
        worth("B1>-1", "TRUE");
        worth("1>B1", "TRUE");
        worth("-1<B1", "TRUE");
        worth("B1<\" \"", "TRUE");
        worth("\" \">B1", "TRUE");
        worth("B1<TRUE", "TRUE");
        worth("TRUE>B1", "TRUE");
        worth("B1=\"0\"", "FALSE");
        worth("B1<>F1", "FALSE");
    }

    private static void compareBothEmpty() {
        worth("B1=B2", "TRUE");
        worth("B1<>B2", "FALSE");
        worth("B1<B2", "FALSE");
        worth("B1<=B2", "TRUE");
        worth("B1>B2", "FALSE");
        worth("B1>=B2", "TRUE");
    }

    private static void compareSorts() {
        worth(MOST + "<\"\"", "TRUE");
        worth("\"\">" + MOST, "TRUE");
        worth("\"~\"<FALSE", "TRUE");
        worth("FALSE>\"~\"", "TRUE");
        worth(MOST + "<FALSE", "TRUE");
        worth("FALSE>" + MOST, "TRUE");
        worth("5=\"5\"", "FALSE");
        worth("1=TRUE", "FALSE");
        worth("0<>FALSE", "TRUE");
        worth("\"TRUE\"=TRUE", "FALSE");
    }

    private static void compareTexts() {
        worth("\"a\"=\"a\"", "TRUE");
        worth("\"a\"=\"A\"", "FALSE");
        worth("\"A\"<\"a\"", "TRUE");
        worth("\"a\"<\"b\"", "TRUE");
        worth("\"a\"<\"ab\"", "TRUE");
        worth("\"\"<\" \"", "TRUE");
        worth("\"ab\"<\"b\"", "TRUE");
        worth("\"10\"<\"9\"", "TRUE");
        worth("\" \"<\"~\"", "TRUE");
        worth(S64 + "=" + S64, "TRUE");
        worth(S63 + "&\"a\"<" + S63 + "&\"b\"", "TRUE");
        worth(S63 + "<" + S64, "TRUE");
    }

    private static void compareTruths() {
        worth("FALSE<TRUE", "TRUE");
        worth("TRUE<FALSE", "FALSE");
        worth("TRUE=TRUE", "TRUE");
        worth("FALSE=FALSE", "TRUE");
        worth("D1>FALSE", "TRUE");
    }

    private static void compareNumbers() {
        worth(LOW + "<" + MOST, "TRUE");
        worth(MOST + "<" + LOW, "FALSE");
        worth(MOST + "=" + MOST, "TRUE");
        worth(LOW + "=" + LOW, "TRUE");
        worth("0=4294967296", "FALSE");
        worth("-1<0", "TRUE");
    }

    private static void compareSigns() {
        String[] signs = {"=", "<>", "<", "<=", ">", ">="};
        String[] below = {"FALSE", "TRUE", "TRUE", "TRUE", "FALSE", "FALSE"};
        String[] same = {"TRUE", "FALSE", "FALSE", "TRUE", "FALSE", "TRUE"};
        String[] above = {"FALSE", "TRUE", "FALSE", "FALSE", "TRUE", "TRUE"};
        for (int i = 0; i < signs.length; i++) {
            worth("4" + signs[i] + "5", below[i]);
            worth("5" + signs[i] + "5", same[i]);
            worth("6" + signs[i] + "5", above[i]);
        }
    }
}
