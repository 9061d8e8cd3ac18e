import java.util.List;
import java.util.Random;

/** All promises: no call throws what it does not name, whatever comes in whatever order. */
public final class AnyArgumentsTest {
    private static final int[] NUMBERS = {
        Integer.MIN_VALUE, -1000, -27, -2, -1, 0, 0, 0, 1, 1, 2, 3, 4, 5, 6, 24, 25, 26, 27, 49, 50, 51, 63, 64, 65, 198,
        199, 200, 201, 239, 240, 241, 399, 400, 799, 800, 5199, 5200, 65536, Integer.MAX_VALUE
    };
    private static final String SOUP = "=A1B2C3Z200$:+-*/^%&<>=\"(),SUM(A1:B2)IF(IFERROR(CHOOSE(1,TRUE FALSE 0123456789 NA()x~";
    private static final String BAD = "IllegalArgumentException";
    private static final String REFUSED = "IllegalStateException";
    private static final String NOT_THERE = "NoSuchElementException";

    private final Random random;
    private final Sheet sheet = new Sheet();
    private final GridLedger ledger = sheet.ledger;

    private AnyArgumentsTest(int seed) {
        random = new Random(seed);
    }

    public static void main(String[] args) {
        for (int seed = 1; seed <= 150; seed++) {
            new AnyArgumentsTest(seed).run(seed % 10 == 0 ? 3000 : 512);
        }
        Check.finish();
    }

    private int any() {
        return NUMBERS[random.nextInt(NUMBERS.length)];
    }

    /** Mostly one of those that are there. */
    private int near(int behind) {
        return random.nextInt(15) == 0 ? any() : random.nextInt(behind);
    }

    private int four() {
        int four = 0;
        for (int i = 0; i < 4; i++) {
            int b = random.nextInt(300) == 0 ? random.nextInt(256) : SOUP.charAt(random.nextInt(SOUP.length()));
            four = four << 8 | b;
        }
        return four;
    }

    private void run(int calls) {
        for (int i = 0; i < calls; i++) {
            step(random.nextInt(20));
        }
    }

    private void look(String answer, String... named) {
        boolean thrown = Character.isLetter(answer.charAt(0));
        Check.same("thrown or not", thrown && !List.of(named).contains(answer) ? answer : "fine", "fine");
    }

    private void step(int which) {
        int a = near(6);
        int b = near(6);
        int c = near(6);
        int d = near(6);
        switch (which) {
            case 0:
            case 1:
            case 2:
                int first = random.nextInt(3) == 0 ? four() & 0xFFFFFF | '=' << 24 : four();
                look(Sheet.of(() -> ledger.feed(first, four(), four(), four(), four())), "IndexOutOfBoundsException");
                break;
            case 3:
                look(Sheet.of(() -> ledger.end(near(21))), BAD);
                break;
            case 4:
            case 5:
            case 6:
                look(Sheet.of(() -> ledger.put(a, b)), BAD, REFUSED);
                break;
            case 7:
                int right = random.nextInt(4) == 0 ? near(26) : c;
                int down = random.nextInt(4) == 0 ? near(200) : d;
                look(Sheet.of(() -> ledger.fill(a, b, near(6), near(6), right, down)), BAD, REFUSED);
                break;
            case 8:
                look(Sheet.of(() -> ledger.insert(random.nextBoolean(), a, near(4))), BAD, REFUSED);
                break;
            case 9:
                look(Sheet.of(() -> ledger.erase(random.nextBoolean(), a, near(4))), BAD, REFUSED);
                break;
            case 10:
                look(Sheet.of(ledger::undo), REFUSED);
                break;
            case 11:
                look(Sheet.of(ledger::redo), REFUSED);
                break;
            default:
                ask(which, a, b);
                break;
        }
    }

    private void ask(int which, int a, int b) {
        switch (which) {
            case 12:
                look(Sheet.of(() -> ledger.value(a, b, near(2))), BAD);
                break;
            case 13:
                look(Sheet.of(() -> ledger.letter(a, b, near(5))), BAD, NOT_THERE);
                break;
            case 14:
                look(Sheet.of(() -> ledger.content(a, b, near(3))), BAD);
                break;
            case 15:
                look(Sheet.of(() -> ledger.reference(a, b, near(3))), BAD, NOT_THERE);
                break;
            case 16:
                look(Sheet.of(() -> ledger.changed(near(5))), NOT_THERE);
                break;
            default:
                look(Sheet.of(() -> ledger.count(near(9))));
                break;
        }
    }
}
