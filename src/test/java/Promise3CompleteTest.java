/** Promise 3: whether the text is whole. */
public final class Promise3CompleteTest {
    public static void main(String[] args) {
        documentTable();
        firstGroupOfAnyLength();
        wholeWithValueZeroOrAtLimit();
        refusalsDoNotChangeIt();
        askingChangesNothing();
        Check.end();
    }

    private static void documentTable() {
        Check.after("", false, 0L);
        Check.after("7", true, 7L);
        Check.after("12", true, 12L);
        Check.after("123", true, 123L);
        Check.after("1,", false, 1L);
        Check.after("1,23", false, 123L);
        Check.after("1,234", true, 1234L);
        Check.after("1,234,", false, 1234L);
        Check.after("1,234,567", true, 1234567L);
    }

    private static void firstGroupOfAnyLength() {
        String[] starts = {"8", "88", "888"};
        for (String start : starts) {
            Check.same(start, Check.accepted(start).complete(), true);
            Check.same(start + ",", Check.accepted(start + ",").complete(), false);
            Check.same(start + ",1", Check.accepted(start + ",1").complete(), false);
            Check.same(start + ",12", Check.accepted(start + ",12").complete(), false);
            Check.same(start + ",123", Check.accepted(start + ",123").complete(), true);
        }
    }

    private static void wholeWithValueZeroOrAtLimit() {
        Check.after("0", true, 0L);
        Check.after("000", true, 0L);
        Check.after("0,", false, 0L);
        Check.after("0,00", false, 0L);
        Check.after("0,000", true, 0L);
        Check.after("9,999,999,999", true, Check.LIMIT);
        Check.after("9,999,999,999,", false, Check.LIMIT);
        Check.after("9,999,999,999,9", false, Check.LIMIT);
    }

    private static void refusalsDoNotChangeIt() {
        GroupedReader reader = new GroupedReader();
        Check.feed("fresh", reader, ',', 2);
        Check.feed("fresh", reader, 'x', 3);
        Check.state("fresh, two refusals", reader, false, 0L);
        reader = Check.accepted("123");
        Check.feed("after \"123\"", reader, '4', 1);
        Check.state("after \"123\" and a refusal", reader, true, 123L);
        reader = Check.accepted("1,23");
        Check.feed("after \"1,23\"", reader, ',', 2);
        Check.state("after \"1,23\" and a refusal", reader, false, 123L);
    }

    private static void askingChangesNothing() {
        GroupedReader reader = new GroupedReader();
        String text = "12,345,678";
        for (int i = 0; i < text.length(); i++) {
            boolean first = reader.complete();
            long value = reader.value();
            for (int again = 0; again < 5; again++) {
                Check.same("complete() asked again at " + i, reader.complete(), first);
            }
            Check.same("value() after complete() at " + i, reader.value(), value);
            Check.feed("after complete() at " + i, reader, text.charAt(i), 0);
        }
        Check.state("after \"" + text + "\"", reader, true, 12345678L);
    }
}
