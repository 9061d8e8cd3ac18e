import java.nio.charset.StandardCharsets;
import java.util.NoSuchElementException;

/** A GridLedger with cells by their names, and with answers as texts; an exception is the answer, by its name. */
final class Sheet {
    private static final String[] ERRORS = {
        "", "#syntax", "#ref", "#name", "#value", "#div", "#num", "#none", "#cycle"
    };

    final GridLedger ledger = new GridLedger();

    interface Call {
        long answer();
    }

    static String of(Call call) {
        try {
            return String.valueOf(call.answer());
        } catch (NoSuchElementException | IndexOutOfBoundsException | IllegalArgumentException
                | IllegalStateException e) {
            return e.getClass().getSimpleName();
        }
    }

    static int column(String cell) {
        return cell.charAt(0) - 'A';
    }

    static int row(String cell) {
        return Integer.parseInt(cell.substring(1)) - 1;
    }

    static String name(int place) {
        return place < 0 ? "gone" : (char) ('A' + place % 26) + String.valueOf(place / 26 + 1);
    }

    /** INPUT gets these bytes, with nothing behind them. */
    void type(String text) {
        type(text.getBytes(StandardCharsets.ISO_8859_1));
    }

    void type(byte[] bytes) {
        for (int i = 0; i < bytes.length; i += 20) {
            int[] four = new int[5];
            for (int k = 0; k < 20; k++) {
                int b = i + k < bytes.length ? bytes[i + k] & 0xFF : 0;
                four[k / 4] = four[k / 4] << 8 | b;
            }
            ledger.feed(four[0], four[1], four[2], four[3], four[4]);
            if (i + 20 > bytes.length) {
                ledger.end(i + 20 - bytes.length);
            }
        }
    }

    String put(String cell, String text) {
        type(text);
        return of(() -> ledger.put(column(cell), row(cell)));
    }

    /** Puts and shows. */
    String worth(String cell, String text) {
        String answer = put(cell, text);
        return Character.isLetter(answer.charAt(0)) ? answer : show(cell);
    }

    String fill(String from, String first, String last) {
        return of(() -> ledger.fill(column(from), row(from), column(first), row(first), column(last), row(last)));
    }

    String insert(boolean columns, int i, int n) {
        return of(() -> ledger.insert(columns, i, n));
    }

    String erase(boolean columns, int i, int n) {
        return of(() -> ledger.erase(columns, i, n));
    }

    String undo() {
        return of(ledger::undo);
    }

    String redo() {
        return of(ledger::redo);
    }

    /** A cell's VALUE: empty, 5, 'text', TRUE, #div. */
    String show(String cell) {
        return show(column(cell), row(cell));
    }

    String show(int column, int row) {
        long number = ledger.value(column, row, 1);
        switch ((int) ledger.value(column, row, 0)) {
            case 0:
                return number == 0 ? "empty" : "empty with " + number;
            case 1:
                return String.valueOf(number);
            case 2:
                return "'" + letters(column, row, (int) number) + "'";
            case 3:
                return number == 1 ? "TRUE" : number == 0 ? "FALSE" : "truth " + number;
            default:
                return number >= 1 && number <= 8 ? ERRORS[(int) number] : "error " + number;
        }
    }

    private String letters(int column, int row, int length) {
        StringBuilder text = new StringBuilder();
        for (int i = 0; i < length; i++) {
            text.append((char) ledger.letter(column, row, i));
        }
        return text.toString();
    }

    /** The REFS and corners of a cell's FORMULA, by their names. */
    String refs(String cell) {
        int column = column(cell);
        int row = row(cell);
        StringBuilder all = new StringBuilder();
        for (int i = 0; i < ledger.content(column, row, 1); i++) {
            all.append(i == 0 ? "" : " ").append(name(ledger.reference(column, row, i)));
        }
        return all.toString();
    }

    /** CHANGED, by names. */
    String changes() {
        StringBuilder all = new StringBuilder();
        for (int i = 0; i < ledger.count(1); i++) {
            all.append(i == 0 ? "" : " ").append(name(ledger.changed(i)));
        }
        return all.toString();
    }

    /** All that can be seen of these cells, and of the object but for what undo and redo would do. */
    String picture(String... cells) {
        StringBuilder all = new StringBuilder(counts()).append(" changed ").append(changes());
        for (String cell : cells) {
            int kind = ledger.content(column(cell), row(cell), 0);
            all.append("; ").append(cell).append(' ').append(show(cell)).append(" of ").append(kind).append(' ')
                    .append(refs(cell));
        }
        return all.toString();
    }

    /** All that count tells. */
    String counts() {
        StringBuilder all = new StringBuilder();
        for (int what = 0; what < 8; what++) {
            all.append(what == 0 ? "" : " ").append(ledger.count(what));
        }
        return all.toString();
    }
}
