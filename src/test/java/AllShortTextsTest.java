import java.math.BigInteger;

/**
 * Promises 2 to 4 together: every text of up to eight offered chars, and after a start near the
 * limit too, against answers worked out anew from the accepted text alone and not from kept state.
 */
public final class AllShortTextsTest {
    private static final char[] OFFERED = {'0', '5', '9', ',', 'x'};
    private static final int LENGTH = 8;

    public static void main(String[] args) {
        for (String start : new String[] {"", "499,999,", "500,000,", "4,999,999,99"}) {
            Check.test("Every short text after \"" + start + "\"", () -> offerAll(start));
        }
        Check.end();
    }

    private static void offerAll(String start) {
        int count = 1;
        for (int i = 0; i < LENGTH; i++) {
            count *= OFFERED.length;
        }
        for (int number = 0; number < count; number++) {
            offer(start, number);
        }
    }

    private static void offer(String start, int number) {
        GroupedReader reader = Check.accepted(start);
        String text = start;
        int rest = number;
        for (int i = 0; i < LENGTH; i++) {
            char c = OFFERED[rest % OFFERED.length];
            rest /= OFFERED.length;
            int due = dueAnswer(text, c);
            Check.feed(text, reader, c, due);
            if (due == 0) {
                text += c;
            }
        }
        Check.complete(text, reader, isWhole(text));
        Check.value(text, reader, dueValue(text));
    }

    private static int dueAnswer(String text, char c) {
        if (c == ',') {
            return isWhole(text) ? 0 : 2;
        }
        if ("0123456789".indexOf(c) < 0) {
            return 3;
        }
        return lastGroup(text).length() == 3 ? 1 : 0;
    }

    private static String lastGroup(String text) {
        return text.substring(text.lastIndexOf(',') + 1);
    }

    private static boolean isWhole(String text) {
        int length = lastGroup(text).length();
        return text.indexOf(',') >= 0 ? length == 3 : length >= 1;
    }

    private static long dueValue(String text) {
        BigInteger whole = new BigInteger("0" + text.replace(",", ""));
        return whole.min(BigInteger.valueOf(Check.LIMIT)).longValueExact();
    }
}
