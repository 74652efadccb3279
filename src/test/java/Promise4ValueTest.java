/** Promise 4: the value read so far. */
public final class Promise4ValueTest {
    public static void main(String[] args) {
        answeredWholeOrNot();
        passesIntRange();
        edgesOfTheLimit();
        limitIsReachedWithinAGroup();
        limitIsKept();
        refusedDigitsDoNotCount();
        askingChangesNothing();
        Check.end();
    }

    private static void answeredWholeOrNot() {
        Check.after("1,2", false, 12L);
        Check.after("1,23", false, 123L);
        Check.after("12,", false, 12L);
        Check.after("987,654,321", true, 987654321L);
    }

    private static void passesIntRange() {
        Check.after("32,768", true, 32768L);
        Check.after("65,536", true, 65536L);
        Check.after("2,147,483,647", true, 2147483647L);
        Check.after("2,147,483,648", true, 2147483648L);
        Check.after("4,294,967,296", true, 4294967296L);
    }

    private static void edgesOfTheLimit() {
        Check.after("4,999,999,998", true, 4999999998L);
        Check.after("4,999,999,999", true, 4999999999L);
        Check.after("5,000,000,000", true, 5000000000L);
        Check.after("5,000,000,001", true, Check.LIMIT);
        Check.after("5,000,000,009", true, Check.LIMIT);
        Check.after("5,000,000,010", true, Check.LIMIT);
        Check.after("9,999,999,999", true, Check.LIMIT);
        Check.after("0,004,999,999,999", true, 4999999999L);
        Check.after("0,005,000,000,000", true, 5000000000L);
        Check.after("005,000,000,001", true, Check.LIMIT);
    }

    private static void limitIsReachedWithinAGroup() {
        Check.after("500,000,000", true, 500000000L);
        Check.after("500,000,000,", false, 500000000L);
        Check.after("500,000,000,0", false, 5000000000L);
        Check.after("500,000,000,1", false, Check.LIMIT);
        Check.after("499,999,999,9", false, 4999999999L);
        Check.after("499,999,999,99", false, Check.LIMIT);
        Check.after("50,000,000,00", false, 5000000000L);
        Check.after("50,000,000,000", true, Check.LIMIT);
        Check.after("999,999,999", true, 999999999L);
        Check.after("999,999,999,9", false, Check.LIMIT);
    }

    private static void limitIsKept() {
        String[] starts = {"5,000,000,000", "9,999,999,999"};
        for (String start : starts) {
            for (char c = '0'; c <= '9'; c++) {
                GroupedReader reader = Check.accepted(start);
                for (int i = 0; i < 100; i++) {
                    Check.feed("at the limit", reader, ',', 0);
                    Check.same("value() at the limit after ','", reader.value(), Check.LIMIT);
                    for (int digit = 0; digit < 3; digit++) {
                        Check.feed("at the limit", reader, c, 0);
                        Check.same("value() at the limit after " + c, reader.value(), Check.LIMIT);
                    }
                }
            }
        }
    }

    private static void refusedDigitsDoNotCount() {
        GroupedReader reader = Check.accepted("123");
        Check.feed("after \"123\"", reader, '4', 1);
        Check.same("value() after a refused digit", reader.value(), 123L);
        Check.feed("after \"123\"", reader, ',', 0);
        Check.feed("after \"123,\"", reader, '5', 0);
        Check.same("value() after \"123,5\"", reader.value(), 1235L);
    }

    private static void askingChangesNothing() {
        GroupedReader reader = new GroupedReader();
        String text = "4,999,999,999,9";
        for (int i = 0; i < text.length(); i++) {
            boolean complete = reader.complete();
            long first = reader.value();
            for (int again = 0; again < 5; again++) {
                Check.same("value() asked again at " + i, reader.value(), first);
            }
            Check.same("complete() after value() at " + i, reader.complete(), complete);
            Check.feed("after value() at " + i, reader, text.charAt(i), 0);
        }
        Check.state("after \"" + text + "\"", reader, false, Check.LIMIT);
    }
}
