/** Promise 1: a fresh reader. */
public final class Promise1FreshTest {
    public static void main(String[] args) {
        freshAnswers();
        freshGroupIsEmpty();
        freshAfterOthersWereUsed();
        readersAreSeparate();
        Check.end();
    }

    private static void freshAnswers() {
        Check.state("fresh", new GroupedReader(), false, 0L);
    }

    private static void freshGroupIsEmpty() {
        Check.feed("fresh", new GroupedReader(), ',', 2);
        GroupedReader reader = Check.accepted("123");
        Check.feed("after three digits", reader, '4', 1);
        // Had a comma been taken as seen, one digit would not be whole.
        Check.after("1", true, 1L);
    }

    private static void freshAfterOthersWereUsed() {
        String[] used = {"7", "123", "1,", "1,23", "9,999,999,999"};
        for (String text : used) {
            Check.accepted(text);
            GroupedReader reader = new GroupedReader();
            Check.state("fresh, made after \"" + text + "\"", reader, false, 0L);
            Check.feed("fresh, made after \"" + text + "\"", reader, ',', 2);
        }
    }

    private static void readersAreSeparate() {
        GroupedReader one = new GroupedReader();
        GroupedReader two = new GroupedReader();
        Check.feed("one", one, '1', 0);
        Check.state("two, unfed", two, false, 0L);
        Check.feed("two", two, ',', 2);
        Check.feed("one", one, ',', 0);
        Check.feed("two", two, '9', 0);
        Check.state("one", one, false, 1L);
        Check.state("two", two, true, 9L);
        Check.feed("one", one, '2', 0);
        Check.feed("one", one, '3', 0);
        Check.feed("one", one, '4', 0);
        Check.feed("two", two, '8', 0);
        Check.feed("two", two, '7', 0);
        Check.feed("one", one, '5', 1);
        Check.feed("two", two, ',', 0);
        Check.state("one", one, true, 1234L);
        Check.state("two", two, false, 987L);
    }
}
