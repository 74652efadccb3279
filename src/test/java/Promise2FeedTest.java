/** Promise 2: feeding one char. */
public final class Promise2FeedTest {
    // Each way that group and comma can stand, and values on both sides of the limit.
    private static final String[] STATES = {
        "", "0", "7", "12", "000", "123", "1,", "12,", "123,", "1,2", "1,23", "1,234", "123,456",
        "1,234,", "1,234,5", "1,234,56", "1,234,567", "4,999,999,999", "5,000,000,000",
        "5,000,000,001", "9,999,999,999", "9,999,999,999,", "9,999,999,999,9", "9,999,999,999,99",
    };

    public static void main(String[] args) {
        fourthDigitIsRefused();
        everyDigitCounts();
        leadingZerosAreAccepted();
        commaNeedsWholeText();
        manyGroupsMayFollow();
        everyOtherCharIsRefused();
        refusalsLeaveNoTrace();
        Check.end();
    }

    private static void fourthDigitIsRefused() {
        String[] full = {"123", "000", "1,234", "12,345", "123,456", "1,234,567", "9,999,999,999"};
        for (String text : full) {
            GroupedReader reader = Check.accepted(text);
            for (char c = '0'; c <= '9'; c++) {
                Check.feed("after \"" + text + "\"", reader, c, 1);
            }
        }
    }

    private static void everyDigitCounts() {
        for (char c = '0'; c <= '9'; c++) {
            Check.after("" + c, true, c - '0');
            Check.after("3" + c, true, 30L + (c - '0'));
            Check.after("3,00" + c, true, 3000L + (c - '0'));
        }
    }

    private static void leadingZerosAreAccepted() {
        GroupedReader reader = Check.accepted("007");
        Check.state("after \"007\"", reader, true, 7L);
        Check.feed("after \"007\"", reader, '1', 1);
        Check.after("0,000,007", true, 7L);
    }

    private static void commaNeedsWholeText() {
        String[] notWhole = {"", "1,", "1,2", "1,23", "123,", "123,4", "123,45", "1,234,", "1,234,5", "1,234,56"};
        for (String text : notWhole) {
            Check.feed("after \"" + text + "\"", Check.accepted(text), ',', 2);
        }
        String[] whole = {"1", "12", "123", "0", "000", "1,234", "12,345", "123,456", "1,234,567"};
        for (String text : whole) {
            GroupedReader reader = Check.accepted(text);
            long value = reader.value();
            Check.feed("after \"" + text + "\"", reader, ',', 0);
            Check.state("after \"" + text + ",\"", reader, false, value);
            Check.feed("after \"" + text + ",\"", reader, ',', 2);
        }
    }

    private static void manyGroupsMayFollow() {
        GroupedReader reader = Check.accepted("9");
        for (int i = 0; i < 10000; i++) {
            Check.feed("group " + i, reader, ',', 0);
            Check.feed("group " + i, reader, '9', 0);
            Check.feed("group " + i, reader, '9', 0);
            Check.feed("group " + i, reader, ',', 2);
            Check.feed("group " + i, reader, '9', 0);
            Check.feed("group " + i, reader, '9', 1);
        }
        Check.state("after 10000 groups", reader, true, Check.LIMIT);
    }

    private static void everyOtherCharIsRefused() {
        for (String text : STATES) {
            GroupedReader reader = Check.accepted(text);
            boolean complete = reader.complete();
            long value = reader.value();
            for (int code = 0; code <= 65535; code++) {
                char c = (char) code;
                if (c != ',' && (c < '0' || c > '9')) {
                    Check.feed("after \"" + text + "\"", reader, c, 3);
                }
            }
            Check.state("after \"" + text + "\" and every other char", reader, complete, value);
        }
    }

    private static void refusalsLeaveNoTrace() {
        // The Arabic-Indic, Devanagari and fullwidth threes and the fullwidth comma among them.
        char[] offered = {'0', '5', '9', ',', '.', '-', '+', '_', ' ', 'a', '/', ':', '\0', '\n',
            '\u0663', '\u0969', '\uff13', '\uff0c', '\uffff'};
        String[] rest = {"", "4", "44", "444", "4444", ",", ",5", ",55", ",555", ",555,", "6,", "66,", "666,777,8"};
        for (String text : STATES) {
            for (char c : offered) {
                for (String next : rest) {
                    refusalLeavesNoTrace(text, c, next);
                }
            }
        }
    }

    private static void refusalLeavesNoTrace(String text, char c, String next) {
        GroupedReader plain = Check.accepted(text);
        GroupedReader disturbed = Check.accepted(text);
        if (disturbed.feed(c) == 0) {
            return;
        }
        String what = "after \"" + text + "\" and a refused " + Check.show(c);
        Check.state(what, disturbed, plain.complete(), plain.value());
        for (char later : next.toCharArray()) {
            Check.feed(what + ", on with \"" + next + "\"", disturbed, later, plain.feed(later));
            Check.state(what + ", on with \"" + next + "\"", disturbed, plain.complete(), plain.value());
        }
    }
}
