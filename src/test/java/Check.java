/** What the tests share: it counts wrong answers, prints the first ones, and ends the test. */
final class Check {
    static final long LIMIT = 5000000000L;

    // One fault can show in millions of answers; the first ones tell enough.
    private static final int MOST_PRINTED = 100;

    private static int checks = 0;
    private static int wrong = 0;

    private Check() {
    }

    static void same(String what, Object got, Object due) {
        checks++;
        if (!due.equals(got)) {
            wrong++;
            if (wrong <= MOST_PRINTED) {
                System.out.println(what + " answered " + got + ", due is " + due);
            }
        }
    }

    static void feed(String what, GroupedReader reader, char c, int due) {
        same(what + ": feed(" + show(c) + ")", reader.feed(c), due);
    }

    static void state(String what, GroupedReader reader, boolean complete, long value) {
        same(what + ": complete()", reader.complete(), complete);
        same(what + ": value()", reader.value(), value);
    }

    /** A new reader that has accepted every char of the text. */
    static GroupedReader accepted(String text) {
        GroupedReader reader = new GroupedReader();
        for (char c : text.toCharArray()) {
            feed("within \"" + text + "\"", reader, c, 0);
        }
        return reader;
    }

    static void after(String text, boolean complete, long value) {
        state("after \"" + text + "\"", accepted(text), complete, value);
    }

    static String show(char c) {
        return c > ' ' && c < 127 ? "'" + c + "'" : "(char) " + (int) c;
    }

    static void end() {
        System.out.println(checks + " answers looked at, " + wrong + " not as due");
        if (wrong != 0 || checks == 0) {
            System.exit(1);
        }
    }
}
