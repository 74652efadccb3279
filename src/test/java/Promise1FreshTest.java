/** Promise 1: a fresh reader. Each test is named by the sentence that it would see broken. */
public final class Promise1FreshTest {
    private static final String[] USES = {
        "7", "12", "123", "1,", "1,2", "1,23", "1,234", "9,999,999,999", "9,999,999,999,",
    };

    public static void main(String[] args) {
        Check.test("A fresh reader's value is 0, its group is 0 and its comma is false",
            Promise1FreshTest::freshState);
        Check.test("Right after construction complete() answers false", Promise1FreshTest::freshComplete);
        Check.test("Right after construction value() answers 0L", Promise1FreshTest::freshValue);
        Check.test("The constructor never throws", Promise1FreshTest::manyReaders);
        Check.test("Separate readers have separate state", Promise1FreshTest::separateState);
        Check.test("Feeding one reader never affects another", Promise1FreshTest::feedingOneOfTwo);
        Check.end();
    }

    private static void freshState() {
        new State("", 0L, 0, false).look("fresh", new GroupedReader());
        Check.feed("fresh", new GroupedReader(), ',', 2);
    }

    private static void freshComplete() {
        Check.complete("fresh", new GroupedReader(), false);
    }

    private static void freshValue() {
        Check.value("fresh", new GroupedReader(), 0L);
    }

    private static void manyReaders() {
        for (int i = 0; i < 100000; i++) {
            GroupedReader reader = new GroupedReader();
            Check.complete("reader " + i, reader, false);
            Check.value("reader " + i, reader, 0L);
        }
    }

    private static void separateState() {
        for (String use : USES) {
            GroupedReader older = new GroupedReader();
            Check.accepted(use);
            GroupedReader newer = new GroupedReader();
            new State("", 0L, 0, false).look("made before another read " + use, older);
            new State("", 0L, 0, false).look("made after another read " + use, newer);
        }
    }

    private static void feedingOneOfTwo() {
        for (State state : State.ALL) {
            for (String use : USES) {
                GroupedReader one = state.reader();
                GroupedReader two = new GroupedReader();
                String what = "after \"" + state.text() + "\", another reading \"" + use + "\"";
                for (char c : use.toCharArray()) {
                    Check.feed(what, two, c, 0);
                    Check.complete(what, one, state.whole());
                    Check.value(what, one, state.value());
                }
                Check.feed(what, two, 'x', 3);
                state.look(what, one);
            }
        }
    }
}
