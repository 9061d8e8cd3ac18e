import java.util.Random;

/** Makes FORMULAS, most of them right, of CELLS in a small box, so that they meet often. */
final class Formulas {
    private static final String[] SIGNS = {"=", "<>", "<", "<=", ">", ">=", "&", "+", "-", "*", "/", "^", "+", "-", "*", "&"};
    private static final String[] NAMES = {
        "SUM r", "PRODUCT r", "MIN r", "MAX r", "AVERAGE r", "COUNT r", "COUNTA r", "AND bb", "OR bb", "NOT b", "IF bxx",
        "IFERROR xx", "CHOOSE nxxx", "ISERROR x", "ISNUMBER x", "ISTEXT x", "ISBLANK x", "ABS n", "SIGN n", "MOD nn",
        "LEN t", "UPPER t", "LOWER t", "LEFT tn", "RIGHT tn", "MID tnn", "FIND tt", "REPLACE ttt", "ROW r", "COLUMN r",
        "ROWS r", "COLUMNS r", "NA ", "INDEX rnn", "MATCH xr", "LOOKUP xrn", "SUMIF rx", "COUNTIF rx"
    };
    private static final String[] WORDS = {
        "", "a", "b", "ab", "ba", "aab", "Ab", "-7", "12", "007", "x y", "TRUE", "9223372036854775808",
        "-9223372036854775808", "aaaaaaaaaaaaaaaaaaaaaaaaaaaaaaaa", "abababababababababababababababababababab",
        "1234567890123456789012345678901234567890123456789012345678901234"
    };
    private static final String[] NUMBERS = {
        "0", "1", "2", "3", "1", "2", "3", "4", "5", "7", "10", "62", "63", "64", "100", "99", "199", "3037000500",
        "4611686018427387904", "9223372036854775807", "9223372036854775806", "00012"
    };

    private static final String[] BAD = {
        "\n", "=1\t", "a\u007f", "\u0080", "=\u00ffA1", "x".repeat(65), "=" + "1".repeat(201), "=A1" + " ".repeat(199)
    };
    private static final String[] EXTREMES = {
        "9223372036854775807", "-9223372036854775807", "(-9223372036854775807-1)", "\"-9223372036854775808\"",
        "9223372036854775808", "2147483648", "4294967297", "-2147483649", "64", "65"
    };

    private final Random random;
    private final int left;
    private final int top;
    /** One in so many REFS is anywhere in the sheet. */
    private final int far;

    Formulas(Random random, int left, int top, int far) {
        this.random = random;
        this.left = left;
        this.top = top;
        this.far = far;
    }

    private String one(String[] of) {
        return of[random.nextInt(of.length)];
    }

    /** What may be TYPED. */
    String content() {
        if (random.nextInt(50) == 0) {
            return one(BAD);
        }
        switch (random.nextInt(12)) {
            case 0:
                return "";
            case 1:
                return one(WORDS);
            case 2:
            case 3:
                return (random.nextBoolean() ? "-" : "") + one(NUMBERS);
            case 4:
                return broken(formula(2));
            default:
                return formula(random.nextInt(4));
        }
    }

    private String formula(int deep) {
        String text = "=" + expression(deep);
        return text.length() > 230 ? text.substring(0, 230) : text;
    }

    private String broken(String text) {
        int at = random.nextInt(text.length());
        String bytes = "=<>&+-*/^%(),:$\"A1B0Zz _.#!2345:::,,,---%%%((()))";
        String piece = String.valueOf(bytes.charAt(random.nextInt(bytes.length())));
        switch (random.nextInt(3)) {
            case 0:
                return text.substring(0, at) + text.substring(at + 1);
            case 1:
                return text.substring(0, at) + piece + text.substring(at);
            default:
                return text.substring(0, at) + piece + text.substring(at + 1);
        }
    }

    private String space() {
        return random.nextInt(12) == 0 ? " " : "";
    }

    private String expression(int deep) {
        if (deep == 0) {
            return leaf();
        }
        switch (random.nextInt(8)) {
            case 0:
                return "-" + space() + expression(deep - 1);
            case 1:
                return expression(deep - 1) + space() + "%";
            case 2:
                return "(" + space() + expression(deep - 1) + ")";
            case 3:
            case 4:
                return expression(deep - 1) + space() + one(SIGNS) + space() + expression(deep - 1);
            default:
                return call(deep);
        }
    }

    private String leaf() {
        switch (random.nextInt(8)) {
            case 0:
                return "\"" + one(WORDS) + "\"";
            case 1:
            case 2:
                return one(NUMBERS);
            case 3:
                return random.nextBoolean() ? "TRUE" : "FALSE";
            default:
                return ref();
        }
    }

    private String ref() {
        int column = random.nextInt(far) == 0 ? random.nextInt(26) : left + random.nextInt(4);
        int row = random.nextInt(far) == 0 ? random.nextInt(200) : top + random.nextInt(6);
        return (random.nextInt(4) == 0 ? "$" : "") + (char) ('A' + column) + (random.nextInt(4) == 0 ? "$" : "") + (row + 1);
    }

    private String call(int deep) {
        String[] two = (one(NAMES) + " .").split(" ");
        String takes = two[1].equals(".") ? "" : two[1];
        StringBuilder text = new StringBuilder(random.nextInt(60) == 0 ? "NOSUCH" : two[0]).append(space()).append('(');
        int many = takes.length();
        if (random.nextInt(40) == 0) {
            many += random.nextBoolean() ? 1 : -1;
        }
        for (int i = 0; i < many; i++) {
            char asked = i < takes.length() ? takes.charAt(i) : 'x';
            text.append(i == 0 ? "" : ",").append(space()).append(argument(asked, deep));
        }
        return text.append(space()).append(')').toString();
    }

    private String argument(char asked, int deep) {
        boolean odd = random.nextInt(30) == 0;
        if (asked == 'r' != odd) {
            return random.nextInt(3) == 0 ? ref() : ref() + ":" + ref();
        }
        if (asked == 'n' && random.nextInt(12) == 0) {
            return one(EXTREMES);
        }
        if (asked == 'n' && random.nextInt(3) > 0) {
            return String.valueOf(random.nextInt(5) - 1);
        }
        if (asked == 't' && random.nextInt(3) > 0) {
            return "\"" + one(WORDS) + "\"";
        }
        return expression(deep - 1);
    }
}
