/** Promise 3: whether the text is whole. Each test is named by the sentence that it would see broken. */
public final class Promise3CompleteTest {
    public static void main(String[] args) {
        Check.test("If comma is true, complete() answers true exactly when group == 3",
            Promise3CompleteTest::afterAComma);
        Check.test("If comma is false, complete() answers true exactly when group >= 1",
            Promise3CompleteTest::beforeAnyComma);
        Check.test("The table of accepted inputs", Promise3CompleteTest::table);
        Check.test("complete() changes nothing", Promise3CompleteTest::changesNothing);
        Check.test("complete() never throws", Promise3CompleteTest::inEveryState);
        Check.test("complete(), called any number of times, gives the same answer",
            Promise3CompleteTest::askedAgain);
        Check.test("complete() gives the same answer until the next accepted feed, refused ones between",
            Promise3CompleteTest::refusedFeedsBetween);
        Check.end();
    }

    private static void afterAComma() {
        String[] starts = {"8,", "88,", "888,", "0,", "000,", "1,234,", "9,999,999,999,"};
        for (String start : starts) {
            Check.completeAfter(start, false);
            Check.completeAfter(start + "1", false);
            Check.completeAfter(start + "12", false);
            Check.completeAfter(start + "123", true);
            Check.completeAfter(start + "0", false);
            Check.completeAfter(start + "00", false);
            Check.completeAfter(start + "000", true);
        }
    }

    private static void beforeAnyComma() {
        Check.completeAfter("", false);
        for (char c = '0'; c <= '9'; c++) {
            Check.completeAfter("" + c, true);
            Check.completeAfter("" + c + c, true);
            Check.completeAfter("" + c + c + c, true);
        }
    }

    private static void table() {
        Check.completeAfter("", false);
        Check.completeAfter("7", true);
        Check.completeAfter("12", true);
        Check.completeAfter("123", true);
        Check.completeAfter("1,", false);
        Check.completeAfter("1,23", false);
        Check.completeAfter("1,234", true);
        Check.completeAfter("1,234,", false);
        Check.completeAfter("1,234,567", true);
    }

    private static void changesNothing() {
        for (State state : State.ALL) {
            GroupedReader reader = state.reader();
            reader.complete();
            state.look("after \"" + state.text() + "\" and complete()", reader);
            reader = state.reader();
            reader.complete();
            Check.feed("after \"" + state.text() + "\" and complete()", reader, ',', state.answer(','));
        }
    }

    private static void inEveryState() {
        for (State state : State.ALL) {
            Check.completeAfter(state.text(), state.whole());
        }
    }

    private static void askedAgain() {
        for (State state : State.ALL) {
            GroupedReader reader = state.reader();
            for (int i = 0; i < 10000; i++) {
                Check.complete("after \"" + state.text() + "\", asked again", reader, state.whole());
            }
        }
    }

    private static void refusedFeedsBetween() {
        for (State state : State.ALL) {
            GroupedReader reader = state.reader();
            for (char c : new char[] {'0', '9', ',', '.', 'x', '\u0663'}) {
                if (state.answer(c) != 0) {
                    String what = "after \"" + state.text() + "\" and a refused " + Check.show(c);
                    Check.feed(what, reader, c, state.answer(c));
                    Check.complete(what, reader, state.whole());
                }
            }
        }
    }
}
