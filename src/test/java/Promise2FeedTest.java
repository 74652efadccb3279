/** Promise 2: feeding one char. Each test is named by the sentence that it would see broken. */
public final class Promise2FeedTest {
    private static final String DIGITS = "0123456789";

    public static void main(String[] args) {
        digitTests();
        commaTests();
        otherCharTests();
        refusalTests();
        Check.end();
    }

    private static void digitTests() {
        Check.test("A digit is '0'..'9'", Promise2FeedTest::everyDigitIsADigit);
        Check.test("Before any comma, a fourth digit in a row is refused with 1",
            Promise2FeedTest::fourthDigitBeforeAnyComma);
        Check.test("After a comma, a fourth digit in the same group is refused with 1",
            Promise2FeedTest::fourthDigitAfterAComma);
        Check.test("An accepted digit: group grows by one", Promise2FeedTest::groupGrowsByOne);
        Check.test("An accepted digit: value becomes value * 10 + (c - '0')", Promise2FeedTest::valueTakesTheDigit);
        Check.test("If that result exceeds 5000000000L, value becomes exactly 5000000000L",
            Promise2FeedTest::resultAboveTheLimit);
        Check.test("An accepted digit: the answer is 0", Promise2FeedTest::digitAnswersZero);
        Check.test("An accepted digit: comma does not change", Promise2FeedTest::digitKeepsComma);
        Check.test("There is no wrap-around", Promise2FeedTest::noWrapAround);
        Check.test("Once value has reached 5000000000L, any further accepted digit keeps it there",
            Promise2FeedTest::limitIsKept);
        Check.test("A result of exactly 5000000000L is kept as it is", Promise2FeedTest::exactlyTheLimit);
        Check.test("Leading zeros are accepted like any other digit", Promise2FeedTest::leadingZeros);
    }

    private static void commaTests() {
        Check.test("A comma is refused with 2 at the very start", Promise2FeedTest::commaAtTheStart);
        Check.test("A comma is refused with 2 right after a comma", Promise2FeedTest::commaAfterAComma);
        Check.test("A comma is refused with 2 after a comma followed by only one digit",
            Promise2FeedTest::commaAfterOneDigit);
        Check.test("A comma is refused with 2 after a comma followed by only two digits",
            Promise2FeedTest::commaAfterTwoDigits);
        Check.test("An accepted comma: comma becomes true", Promise2FeedTest::commaIsNoted);
        Check.test("An accepted comma: group becomes 0", Promise2FeedTest::commaEmptiesTheGroup);
        Check.test("An accepted comma: value does not change", Promise2FeedTest::commaKeepsTheValue);
        Check.test("The first comma is accepted after one, two or three leading digits",
            Promise2FeedTest::firstComma);
        Check.test("Every later comma is accepted only after exactly three digits since the previous comma",
            Promise2FeedTest::laterCommas);
        Check.test("Any number of groups may follow one another", Promise2FeedTest::manyGroups);
    }

    private static void otherCharTests() {
        Check.test("Letters are refused with 3", () -> refusedWithThree("azAZeExXlO\u00e9\u03b1\u4e00"));
        Check.test("Spaces are refused with 3", () -> refusedWithThree(" \u00a0\u2009\u202f\u3000"));
        Check.test("'.', '-', '+' and '_' are refused with 3", () -> refusedWithThree(".-+_"));
        Check.test("Control chars are refused with 3", () -> refusedWithThree("\0\t\n\r\u001b\u001f\u007f\u0080"));
        Check.test("Digits from other scripts are refused with 3",
            () -> refusedWithThree("\u0660\u0663\u0669\u06f3\u0966\u0969\u0e53\uff10\uff13\uff19\u00b2\u0664"));
        Check.test("Commas from other scripts are refused with 3", () -> refusedWithThree("\uff0c\u060c\u3001\u066c"));
        Check.test("The neighbours of the digits and of the comma are refused with 3",
            () -> refusedWithThree("/:+-"));
        Check.test("Every other char value is refused with 3", Promise2FeedTest::everyOtherChar);
    }

    private static void refusalTests() {
        Check.test("A call that answers 1 leaves the whole state as it was",
            () -> refusalKeepsTheState(DIGITS, 1));
        Check.test("A call that answers 2 leaves the whole state as it was",
            () -> refusalKeepsTheState(",", 2));
        Check.test("A call that answers 3 leaves the whole state as it was",
            () -> refusalKeepsTheState(".-+_ a/:\0\n\u0663\uff0c\uffff", 3));
        Check.test("The reader keeps working after a refusal", Promise2FeedTest::worksAfterManyRefusals);
        Check.test("Later calls behave as if the refused call had never been made",
            Promise2FeedTest::refusalLeavesNoTrace);
        Check.test("A call that answers 0 changes only what is described for its case",
            Promise2FeedTest::acceptedCallsChangeNoMore);
        Check.test("feed never throws, for any char and in any state", Promise2FeedTest::anyCharInAnyState);
    }

    private static void everyDigitIsADigit() {
        for (char c : DIGITS.toCharArray()) {
            State.lookAfter("" + c, c - '0', 1, false);
        }
    }

    private static void fourthDigitBeforeAnyComma() {
        Check.feedAfter("123", '4', 1);
        for (String full : new String[] {"123", "000", "007", "999"}) {
            for (char c : DIGITS.toCharArray()) {
                Check.feedAfter(full, c, 1);
            }
            Check.feedAll("after \"" + full + "\"", Check.accepted(full), DIGITS, 1);
        }
    }

    private static void fourthDigitAfterAComma() {
        String[] full = {"1,234", "12,345", "123,456", "0,000", "1,234,567", "9,999,999,999", "9,999,999,999,999"};
        for (String text : full) {
            for (char c : DIGITS.toCharArray()) {
                Check.feedAfter(text, c, 1);
            }
            Check.feedAll("after \"" + text + "\"", Check.accepted(text), DIGITS, 1);
        }
    }

    private static void groupGrowsByOne() {
        State.lookAfter("1", 1L, 1, false);
        State.lookAfter("12", 12L, 2, false);
        State.lookAfter("123", 123L, 3, false);
        State.lookAfter("1,2", 12L, 1, true);
        State.lookAfter("1,23", 123L, 2, true);
        State.lookAfter("1,234", 1234L, 3, true);
        State.lookAfter("9,999,999,999,9", Check.LIMIT, 1, true);
        State.lookAfter("9,999,999,999,99", Check.LIMIT, 2, true);
    }

    private static void valueTakesTheDigit() {
        for (char c : DIGITS.toCharArray()) {
            int digit = c - '0';
            Check.valueAfter("" + c, digit);
            Check.valueAfter("3" + c, 30L + digit);
            Check.valueAfter("32" + c, 320L + digit);
            Check.valueAfter("3," + c, 30L + digit);
            Check.valueAfter("3,21" + c, 3210L + digit);
            Check.valueAfter("499,999,999," + c, 4999999990L + digit);
        }
    }

    private static void resultAboveTheLimit() {
        // By one, by nine, by the next smallest values, and by far.
        Check.valueAfter("500,000,000,1", Check.LIMIT);
        Check.valueAfter("500,000,000,9", Check.LIMIT);
        Check.valueAfter("500,000,001,0", Check.LIMIT);
        Check.valueAfter("999,999,999,9", Check.LIMIT);
        Check.valueAfter("4,999,999,999,0", Check.LIMIT);
        Check.valueAfter("4,999,999,999,9", Check.LIMIT);
        Check.valueAfter("5,000,000,001", Check.LIMIT);
    }

    private static void digitAnswersZero() {
        for (State state : State.ALL) {
            for (char c : DIGITS.toCharArray()) {
                if (state.group() < 3) {
                    Check.feedAfter(state.text(), c, 0);
                }
            }
        }
    }

    private static void digitKeepsComma() {
        for (char c : DIGITS.toCharArray()) {
            // One or two digits are whole only as long as no comma is noted.
            Check.completeAfter("" + c, true);
            Check.completeAfter("1" + c, true);
            Check.completeAfter("1," + c, false);
            Check.completeAfter("1,2" + c, false);
            Check.completeAfter("9,999,999,999," + c, false);
            Check.completeAfter("9,999,999,999,9" + c, false);
        }
    }

    private static void noWrapAround() {
        // 50000000009, the greatest result that can come up.
        Check.valueAfter("5,000,000,000,9", Check.LIMIT);
        // Results whose lower 32 bits alone would be small or negative.
        Check.valueAfter("2,147,483,648", 2147483648L);
        Check.valueAfter("4,294,967,295", 4294967295L);
        Check.valueAfter("4,294,967,296", 4294967296L);
        Check.valueAfter("4,294,967,296,0", Check.LIMIT);
        Check.valueAfter("858,993,459,2", Check.LIMIT);
        // Numbers that a long can't hold: its greatest, one more, and 2 to the 64th and beyond.
        Check.valueAfter("9,223,372,036,854,775,807", Check.LIMIT);
        Check.valueAfter("9,223,372,036,854,775,808", Check.LIMIT);
        Check.valueAfter("18,446,744,073,709,551,616", Check.LIMIT);
        Check.valueAfter("18,446,744,073,709,551,617", Check.LIMIT);
        Check.valueAfter("184,467,440,737,095,516,160", Check.LIMIT);
    }

    private static void limitIsKept() {
        for (String start : new String[] {"5,000,000,000", "5,000,000,001", "9,999,999,999"}) {
            for (char c : DIGITS.toCharArray()) {
                GroupedReader reader = Check.accepted(start);
                for (int group = 0; group < 100; group++) {
                    Check.feed("at the limit", reader, ',', 0);
                    for (int digit = 0; digit < 3; digit++) {
                        Check.feed("at the limit", reader, c, 0);
                        Check.value("at the limit, after " + c, reader, Check.LIMIT);
                    }
                }
            }
        }
    }

    private static void exactlyTheLimit() {
        Check.valueAfter("5,000,000,000", 5000000000L);
        Check.valueAfter("50,000,000,00", 5000000000L);
        Check.valueAfter("500,000,000,0", 5000000000L);
        Check.valueAfter("005,000,000,000", 5000000000L);
        // One less is not pulled up to the limit.
        Check.valueAfter("4,999,999,999", 4999999999L);
    }

    private static void leadingZeros() {
        State.lookAfter("0", 0L, 1, false);
        State.lookAfter("00", 0L, 2, false);
        State.lookAfter("000", 0L, 3, false);
        State.lookAfter("007", 7L, 3, false);
        State.lookAfter("07", 7L, 2, false);
        State.lookAfter("0,0", 0L, 1, true);
        State.lookAfter("0,000,007", 7L, 3, true);
        State.lookAfter("000,000,000,000,005", 5L, 3, true);
        State.lookAfter("1,000", 1000L, 3, true);
    }

    private static void commaAtTheStart() {
        Check.feed("fresh", new GroupedReader(), ',', 2);
        Check.feedAll("fresh", new GroupedReader(), ",,,,", 2);
    }

    private static void commaAfterAComma() {
        for (String text : new String[] {"0,", "1,", "12,", "123,", "1,234,", "1,234,567,", "9,999,999,999,"}) {
            Check.feedAfter(text, ',', 2);
            Check.feedAll("after \"" + text + "\"", Check.accepted(text), ",,,,", 2);
        }
    }

    private static void commaAfterOneDigit() {
        for (String text : new String[] {"0,0", "1,2", "12,3", "123,4", "1,234,5", "9,999,999,999,9"}) {
            Check.feedAfter(text, ',', 2);
            Check.feedAll("after \"" + text + "\"", Check.accepted(text), ",,,,", 2);
        }
    }

    private static void commaAfterTwoDigits() {
        for (String text : new String[] {"0,00", "1,23", "12,34", "123,45", "1,234,56", "9,999,999,999,99"}) {
            Check.feedAfter(text, ',', 2);
            Check.feedAll("after \"" + text + "\"", Check.accepted(text), ",,,,", 2);
        }
    }

    private static void commaIsNoted() {
        // Without a noted comma, one or two digits would be whole.
        for (String text : new String[] {"1,", "12,", "123,", "0,", "1,234,", "5,000,000,000,"}) {
            Check.completeAfter(text + "5", false);
            Check.completeAfter(text + "55", false);
            Check.feedAfter(text + "5", ',', 2);
        }
    }

    private static void commaEmptiesTheGroup() {
        for (String text : new String[] {"1,", "12,", "123,", "0,", "1,234,", "5,000,000,000,"}) {
            GroupedReader reader = Check.accepted(text);
            Check.feedAll("after \"" + text + "\"", reader, "678", 0);
            Check.feed("after \"" + text + "678\"", reader, '9', 1);
        }
    }

    private static void commaKeepsTheValue() {
        for (State state : State.ALL) {
            if (state.whole()) {
                Check.valueAfter(state.text() + ",", state.value());
            }
        }
    }

    private static void firstComma() {
        for (String text : new String[] {"1", "12", "123", "0", "00", "000", "9", "99", "999"}) {
            Check.feedAfter(text, ',', 0);
        }
    }

    private static void laterCommas() {
        for (String text : new String[] {"1,", "12,", "123,", "1,234,", "1,234,567,", "9,999,999,999,"}) {
            GroupedReader reader = Check.accepted(text);
            Check.feed("after \"" + text + "\"", reader, ',', 2);
            Check.feed("after \"" + text + "\"", reader, '1', 0);
            Check.feed("after \"" + text + "1\"", reader, ',', 2);
            Check.feed("after \"" + text + "1\"", reader, '2', 0);
            Check.feed("after \"" + text + "12\"", reader, ',', 2);
            Check.feed("after \"" + text + "12\"", reader, '3', 0);
            Check.feed("after \"" + text + "123\"", reader, ',', 0);
            Check.feedAfter(text + "123", ',', 0);
        }
    }

    private static void manyGroups() {
        GroupedReader zeros = Check.accepted("0");
        GroupedReader nines = Check.accepted("9");
        for (int i = 0; i < 1000000; i++) {
            Check.feedAll("a long row of groups of zeros", zeros, ",000", 0);
            Check.feedAll("a long row of groups of nines", nines, ",999", 0);
        }
        new State("0,000..", 0L, 3, true).look("a long row of groups of zeros", zeros);
        new State("9,999..", Check.LIMIT, 3, true).look("a long row of groups of nines", nines);
    }

    private static void refusedWithThree(String chars) {
        for (State state : State.ALL) {
            for (char c : chars.toCharArray()) {
                Check.feedAfter(state.text(), c, 3);
            }
        }
    }

    private static void everyOtherChar() {
        for (State state : State.ALL) {
            GroupedReader reader = state.reader();
            String what = "after \"" + state.text() + "\"";
            for (int code = Character.MIN_VALUE; code <= Character.MAX_VALUE; code++) {
                char c = (char) code;
                if (c != ',' && !State.isDigit(c)) {
                    Check.feed(what, reader, c, 3);
                }
            }
            state.look(what + " and every other char", reader);
        }
    }

    private static void refusalKeepsTheState(String chars, int answer) {
        for (State state : State.ALL) {
            for (char c : chars.toCharArray()) {
                if (state.answer(c) == answer) {
                    String what = "after \"" + state.text() + "\" and a refused " + Check.show(c);
                    GroupedReader reader = state.reader();
                    Check.feed(what, reader, c, answer);
                    state.look(what, reader);
                    GroupedReader other = state.reader();
                    Check.feed(what, other, c, answer);
                    Check.feed(what, other, ',', state.answer(','));
                }
            }
        }
    }

    private static void worksAfterManyRefusals() {
        String text = "1,234,567";
        GroupedReader reader = new GroupedReader();
        State state = State.ALL[0];
        for (char c : text.toCharArray()) {
            refuseManyTimes(reader, state);
            Check.feed("after many refusals", reader, c, 0);
            state = state.after(c);
        }
        refuseManyTimes(reader, state);
        Check.value("after many refusals", reader, 1234567L);
        Check.complete("after many refusals", reader, true);
        state.look("after many refusals", reader);
    }

    private static void refuseManyTimes(GroupedReader reader, State state) {
        for (char c : new char[] {'7', ',', 'x'}) {
            int answer = state.answer(c);
            for (int i = 0; answer != 0 && i < 100000; i++) {
                Check.feed("refused again and again", reader, c, answer);
            }
        }
    }

    private static void refusalLeavesNoTrace() {
        String[] rest = {"4", "44", "444", "4444", ",", ",5", ",55", ",555", ",555,", "6,", "66,", "666,777,8"};
        for (State state : State.ALL) {
            for (char c : "059,.-+_ a/:\0\n\u0663\u0969\uff13\uff0c\uffff".toCharArray()) {
                for (String next : rest) {
                    if (state.answer(c) != 0) {
                        goOnAfterRefusal(state, c, next);
                    }
                }
            }
        }
    }

    private static void goOnAfterRefusal(State start, char refused, String next) {
        String what = "after \"" + start.text() + "\", a refused " + Check.show(refused) + ", on with " + next;
        GroupedReader reader = start.reader();
        reader.feed(refused);
        State state = start;
        for (char c : next.toCharArray()) {
            Check.feed(what, reader, c, state.answer(c));
            state = state.after(c);
            Check.complete(what, reader, state.whole());
            Check.value(what, reader, state.value());
        }
    }

    private static void acceptedCallsChangeNoMore() {
        for (State state : State.ALL) {
            for (char c : (DIGITS + ",").toCharArray()) {
                if (state.answer(c) == 0) {
                    GroupedReader reader = state.reader();
                    String what = "after \"" + state.text() + "\" and an accepted " + Check.show(c);
                    Check.feed(what, reader, c, 0);
                    state.after(c).look(what, reader);
                }
            }
        }
    }

    private static void anyCharInAnyState() {
        for (State state : State.ALL) {
            for (int code = Character.MIN_VALUE; code <= Character.MAX_VALUE; code++) {
                char c = (char) code;
                GroupedReader reader = state.reader();
                Check.feed(state.text(), reader, c, state.answer(c));
                state.after(c).look(state.text(), reader);
            }
        }
    }
}
