/** Promises 4 and 10: what operators are worth, and VALUES taken as others. */
public final class FormulaOperatorsTest {
    private static final String MOST = "9223372036854775807";
    private static final String LEAST = "(-9223372036854775807-1)";

    public static void main(String[] args) {
        numbers();
        powers();
        asNumbers();
        texts();
        comparisons();
        errors();
        Check.finish();
    }

    /** A1 is 3, B1 empty, C1 'text', D1 TRUE, E1 #div, F1 '', G1 the text -7. */
    private static void worth(String formula, String due) {
        Sheet sheet = new Sheet();
        sheet.put("A1", "3");
        sheet.put("C1", "text");
        sheet.put("D1", "=TRUE");
        sheet.put("E1", "=1/0");
        sheet.put("F1", "=\"\"");
        sheet.put("G1", "=\"-7\"");
        Check.same(formula, sheet.worth("K9", "=" + formula), due);
    }

    private static void numbers() {
        worth("1+2", "3");
        worth(MOST + "+1", "#num");
        worth(MOST + "+0", MOST);
        worth(LEAST + "-1", "#num");
        worth(LEAST + "+" + MOST, "-1");
        worth("0-" + LEAST, "#num");
        worth("-1-" + LEAST, MOST);
        worth("-" + LEAST, "#num");
        worth("3037000499*3037000499", "9223372030926249001");
        worth("3037000500*3037000500", "#num");
        worth(LEAST + "*-1", "#num");
        worth("-1*" + LEAST, "#num");
        worth(LEAST + "*1", "-9223372036854775808");
        worth("1*" + LEAST, "-9223372036854775808");
        worth("0*" + LEAST, "0");
        worth(LEAST + "*2", "#num");
        worth("4611686018427387904*-2", "-9223372036854775808");
        worth("-2*4611686018427387904", "-9223372036854775808");
        worth("4611686018427387904*2", "#num");
        worth("7/2", "3");
        worth("-7/2", "-3");
        worth("7/-2", "-3");
        worth("-7/-2", "3");
        worth("0/5", "0");
        worth("5/0", "#div");
        worth("0/0", "#div");
        worth(LEAST + "/-1", "#num");
        worth(LEAST + "/1", "-9223372036854775808");
        worth("199%", "1");
        worth("-199%", "-1");
        worth("99%", "0");
        worth(LEAST + "%", "-92233720368547758");
        worth("-TRUE", "-1");
    }

    private static void powers() {
        worth("2^10", "1024");
        worth("2^0", "1");
        worth("0^0", "1");
        worth("0^5", "0");
        worth("0^" + MOST, "0");
        worth("1^" + MOST, "1");
        worth("(-1)^" + MOST, "-1");
        worth("(-1)^9223372036854775806", "1");
        worth("(-1)^2", "1");
        worth("(-1)^1", "-1");
        worth("(-1)^3", "-1");
        worth("2^62", "4611686018427387904");
        worth("2^63", "#num");
        worth("(-2)^63", "-9223372036854775808");
        worth("(-2)^64", "#num");
        worth("2^64", "#num");
        worth("2^" + MOST, "#num");
        worth("(-2)^" + MOST, "#num");
        worth("2^(0-1)", "#num");
        worth("1^(0-1)", "#num");
        worth("0^(0-1)", "#num");
        worth("2^" + LEAST, "#num");
        worth(LEAST + "^1", "-9223372036854775808");
        worth(LEAST + "^2", "#num");
        worth(LEAST + "^0", "1");
        worth(MOST + "^1", MOST);
        worth("3^39", "4052555153018976267");
        worth("3^40", "#num");
        worth("10^18", "1000000000000000000");
        worth("10^19", "#num");
    }

    private static void asNumbers() {
        worth("B1+0", "0");
        worth("B1-B1", "0");
        worth("D1+D1", "2");
        worth("FALSE+0", "0");
        worth("G1+0", "-7");
        worth("\"007\"*1", "7");
        worth("\"-9223372036854775808\"+0", "-9223372036854775808");
        worth("\"9223372036854775808\"+0", "#value");
        worth("\"-0\"+0", "0");
        worth("C1+1", "#value");
        worth("F1+1", "#value");
        worth("\"\"+1", "#value");
        worth("\" 1\"+1", "#value");
        worth("\"1 \"+1", "#value");
        worth("\"+1\"+1", "#value");
        worth("\"-\"+1", "#value");
        worth("\"--1\"+1", "#value");
        worth("\"=1\"+1", "#value");
        worth("\"TRUE\"+1", "#value");
        worth("-C1", "#value");
        worth("C1%", "#value");
        worth("\"250\"%", "2");
        worth("-\"5\"", "-5");
        worth("\"2\"^\"3\"", "8");
        worth("B1^B1", "1");
        worth("1/B1", "#div");
    }

    private static void texts() {
        worth("1&2", "'12'");
        worth("-5&\"\"", "'-5'");
        worth(LEAST + "&\"\"", "'-9223372036854775808'");
        worth(MOST + "&0", "'92233720368547758070'");
        worth("0&0", "'00'");
        worth("TRUE&FALSE", "'TRUEFALSE'");
        worth("B1&B1", "''");
        worth("B1&\"x\"&C1", "'xtext'");
        worth("\"" + "x".repeat(32) + "\"&\"" + "y".repeat(32) + "\"", "'" + "x".repeat(32) + "y".repeat(32) + "'");
        worth("\"" + "x".repeat(32) + "\"&\"" + "y".repeat(33) + "\"", "#value");
        worth("\"" + "x".repeat(64) + "\"&\"\"", "'" + "x".repeat(64) + "'");
        worth("\"" + "x".repeat(64) + "\"&B1", "'" + "x".repeat(64) + "'");
        worth("\"" + "x".repeat(64) + "\"&0", "#value");
    }

    private static void comparisons() {
        worth("1=1", "TRUE");
        worth("1=\"1\"", "FALSE");
        worth("1=TRUE", "FALSE");
        worth("\"a\"=\"A\"", "FALSE");
        worth("\"a\">\"A\"", "TRUE");
        worth("\"a\"<\"ab\"", "TRUE");
        worth("\"ab\"<\"b\"", "TRUE");
        worth("\"\"<\" \"", "TRUE");
        worth("9>10", "FALSE");
        worth("\"9\">\"10\"", "TRUE");
        worth("\"~\">\" \"", "TRUE");
        worth(MOST + "<\"\"", "TRUE");
        worth("\"zzz\"<FALSE", "TRUE");
        worth(MOST + "<FALSE", "TRUE");
        worth("FALSE<TRUE", "TRUE");
        worth("TRUE<=TRUE", "TRUE");
        worth("TRUE<>FALSE", "TRUE");
        worth(LEAST + "<" + MOST, "TRUE");
        worth(MOST + "<" + LEAST, "FALSE");
        worth("B1=0", "TRUE");
        worth("B1=\"\"", "TRUE");
        worth("B1=FALSE", "TRUE");
        worth("B1=B2", "TRUE");
        worth("B1<>B2", "FALSE");
        worth("B1>=B2", "TRUE");
        worth("B1<1", "TRUE");
        worth("B1>-1", "TRUE");
        worth("B1<\"a\"", "TRUE");
        worth("B1<TRUE", "TRUE");
        worth("1>B1", "TRUE");
        worth("FALSE>B1", "FALSE");
        worth("\"\">=B1", "TRUE");
        worth("B1=1", "FALSE");
        worth("B1=F1", "TRUE");
        worth("2<=1", "FALSE");
        worth("2>=2", "TRUE");
        worth("2>2", "FALSE");
    }

    private static void errors() {
        worth("E1+1", "#div");
        worth("1+E1", "#div");
        worth("NA()+E1", "#none");
        worth("E1+NA()", "#div");
        worth("E1=E1", "#div");
        worth("-E1", "#div");
        worth("E1%", "#div");
        worth("E1&\"x\"", "#div");
        worth("\"x\"+NA()", "#none");
        worth("\"x\"&NA()", "#none");
        worth("NA()/0", "#none");
        worth("(1/0)*NA()", "#div");
        worth("NOSUCH()+NA()", "#name");
        worth("E1", "#div");
        worth("B1", "0");
        worth("(B1)", "0");
        worth("C1", "'text'");
        worth("D1", "TRUE");
    }
}
