/** Promise 4: the value read so far. Each test is named by the sentence that it would see broken. */
public final class Promise4ValueTest {
    public static void main(String[] args) {
        Check.test("value() is always at least 0 and at most 5000000000L", Promise4ValueTest::alwaysInRange);
        Check.test("Commas do not affect value()", Promise4ValueTest::commasDoNotCount);
        Check.test("value() equals the number formed by all accepted digits in order",
            Promise4ValueTest::numberOfAllDigits);
        Check.test("value() is 5000000000L if that number would exceed 5000000000L",
            Promise4ValueTest::numberAboveTheLimit);
        Check.test("The number is formed by accepted digits: refused ones do not count",
            Promise4ValueTest::refusedDigitsDoNotCount);
        Check.test("value() is answered whether or not the text is WHOLE", Promise4ValueTest::wholeOrNot);
        Check.test("value() changes nothing", Promise4ValueTest::changesNothing);
        Check.test("value() never throws", Promise4ValueTest::inEveryState);
        Check.test("value(), called any number of times, gives the same answer", Promise4ValueTest::askedAgain);
        Check.test("value() gives the same answer until the next accepted feed, refused ones between",
            Promise4ValueTest::refusedFeedsBetween);
        Check.end();
    }

    private static void alwaysInRange() {
        for (char c = '0'; c <= '9'; c++) {
            GroupedReader reader = Check.accepted("" + c);
            for (int i = 0; i < 1000; i++) {
                lookAtRange(reader);
                Check.feed("group " + i, reader, ',', 0);
                for (int digit = 0; digit < 3; digit++) {
                    lookAtRange(reader);
                    Check.feed("group " + i, reader, c, 0);
                }
            }
            lookAtRange(reader);
        }
    }

    private static void lookAtRange(GroupedReader reader) {
        long value = reader.value();
        Check.same("value() >= 0 with " + value, value >= 0L, true);
        Check.same("value() <= limit with " + value, value <= Check.LIMIT, true);
    }

    private static void commasDoNotCount() {
        Check.valueAfter("0,", 0L);
        Check.valueAfter("7,", 7L);
        Check.valueAfter("12,", 12L);
        Check.valueAfter("123,", 123L);
        Check.valueAfter("1,234,567,", 1234567L);
        Check.valueAfter("4,999,999,999,", 4999999999L);
        Check.valueAfter("5,000,000,000,", Check.LIMIT);
        // The same digits with the commas elsewhere.
        Check.valueAfter("1,234", 1234L);
        Check.valueAfter("12,34", 1234L);
        Check.valueAfter("123,4", 1234L);
    }

    private static void numberOfAllDigits() {
        Check.valueAfter("0", 0L);
        Check.valueAfter("9", 9L);
        Check.valueAfter("10", 10L);
        Check.valueAfter("321", 321L);
        Check.valueAfter("32,768", 32768L);
        Check.valueAfter("65,536", 65536L);
        Check.valueAfter("987,654,321", 987654321L);
        Check.valueAfter("999,999,999", 999999999L);
        Check.valueAfter("1,000,000,000", 1000000000L);
        Check.valueAfter("2,147,483,647", 2147483647L);
        Check.valueAfter("2,147,483,648", 2147483648L);
        Check.valueAfter("4,294,967,295", 4294967295L);
        Check.valueAfter("4,294,967,296", 4294967296L);
        Check.valueAfter("4,999,999,998", 4999999998L);
        Check.valueAfter("4,999,999,999", 4999999999L);
        Check.valueAfter("5,000,000,000", 5000000000L);
        Check.valueAfter("0,004,999,999,999", 4999999999L);
        Check.valueAfter("000,005,000,000,000", 5000000000L);
    }

    private static void numberAboveTheLimit() {
        Check.valueAfter("5,000,000,001", Check.LIMIT);
        Check.valueAfter("5,000,000,009", Check.LIMIT);
        Check.valueAfter("5,000,000,010", Check.LIMIT);
        Check.valueAfter("5,001,000,000", Check.LIMIT);
        Check.valueAfter("6,000,000,000", Check.LIMIT);
        Check.valueAfter("9,999,999,999", Check.LIMIT);
        Check.valueAfter("10,000,000,00", 1000000000L);
        Check.valueAfter("10,000,000,000", Check.LIMIT);
        Check.valueAfter("499,999,999,9", 4999999999L);
        Check.valueAfter("499,999,999,99", Check.LIMIT);
        Check.valueAfter("999,999,999,9", Check.LIMIT);
        Check.valueAfter("005,000,000,001", Check.LIMIT);
    }

    private static void refusedDigitsDoNotCount() {
        GroupedReader reader = Check.accepted("123");
        Check.feedAll("after \"123\"", reader, "0456789", 1);
        Check.value("after \"123\" and refused digits", reader, 123L);
        Check.feedAll("after \"123\" and refused digits", reader, ",5", 0);
        Check.value("after \"123\", refused digits and \",5\"", reader, 1235L);
        reader = Check.accepted("500,000,000");
        Check.feedAll("after \"500,000,000\"", reader, "0123456789", 1);
        Check.value("after \"500,000,000\" and refused digits", reader, 500000000L);
    }

    private static void wholeOrNot() {
        Check.valueAfter("", 0L);
        Check.valueAfter("1", 1L);
        Check.valueAfter("1,", 1L);
        Check.valueAfter("1,2", 12L);
        Check.valueAfter("1,23", 123L);
        Check.valueAfter("1,234", 1234L);
        Check.valueAfter("1,234,", 1234L);
        Check.valueAfter("1,234,5", 12345L);
        Check.valueAfter("9,999,999,999,9", Check.LIMIT);
    }

    private static void changesNothing() {
        for (State state : State.ALL) {
            GroupedReader reader = state.reader();
            reader.value();
            state.look("after \"" + state.text() + "\" and value()", reader);
            reader = state.reader();
            reader.value();
            Check.feed("after \"" + state.text() + "\" and value()", reader, ',', state.answer(','));
        }
    }

    private static void inEveryState() {
        for (State state : State.ALL) {
            Check.valueAfter(state.text(), state.value());
        }
    }

    private static void askedAgain() {
        for (State state : State.ALL) {
            GroupedReader reader = state.reader();
            for (int i = 0; i < 10000; i++) {
                Check.value("after \"" + state.text() + "\", asked again", reader, state.value());
            }
        }
    }

    private static void refusedFeedsBetween() {
        for (State state : State.ALL) {
            GroupedReader reader = state.reader();
            for (char c : new char[] {'0', '9', ',', '.', 'x', '\u0663'}) {
                if (state.answer(c) != 0) {
                    String what = "after \"" + state.text() + "\" and a refused " + Check.show(c);
                    Check.feed(what, reader, c, state.answer(c));
                    Check.value(what, reader, state.value());
                }
            }
        }
    }
}
