/** What the tests share: it runs each test by name, counts wrong answers, and ends the program. */
final class Check {
    static final long LIMIT = 5000000000L;

    // One fault can show in millions of answers; the first ones of each test tell enough.
    private static final int MOST_PRINTED = 10;

    private static int tests = 0;
    private static int failedTests = 0;
    private static long checks = 0;
    private static int wrongInTest = 0;

    private Check() {
    }

    /** Runs one test, named by the sentence of the document that it would see broken. */
    static void test(String sentence, Runnable body) {
        long before = checks;
        wrongInTest = 0;
        try {
            body.run();
        } catch (RuntimeException | Error thrown) {
            // Caught here, so that one call that throws doesn't keep the other tests from running.
            wrong("a call", "threw " + thrown, "no throw");
        }
        if (checks == before) {
            wrong("the test", "looked at nothing", "at least one answer");
        }
        tests++;
        if (wrongInTest != 0) {
            failedTests++;
        }
        System.out.println((wrongInTest == 0 ? "  ok     " : "  WRONG  ") + sentence);
    }

    static void end() {
        System.out.println(tests + " tests, " + failedTests + " failed, " + checks + " answers looked at");
        if (failedTests != 0 || tests == 0) {
            System.exit(1);
        }
    }

    static void same(String what, Object got, Object due) {
        checks++;
        if (!due.equals(got)) {
            wrong(what, got, due);
        }
    }

    private static void wrong(String what, Object got, Object due) {
        wrongInTest++;
        if (wrongInTest <= MOST_PRINTED) {
            System.out.println(what + " answered " + got + ", due is " + due);
        }
    }

    // These three build their text only for a wrong answer: they are called many millions of times.

    static void feed(String what, GroupedReader reader, char c, int due) {
        checks++;
        int got = reader.feed(c);
        if (got != due) {
            wrong(what + ": feed(" + show(c) + ")", got, due);
        }
    }

    static void complete(String what, GroupedReader reader, boolean due) {
        checks++;
        boolean got = reader.complete();
        if (got != due) {
            wrong(what + ": complete()", got, due);
        }
    }

    static void value(String what, GroupedReader reader, long due) {
        checks++;
        long got = reader.value();
        if (got != due) {
            wrong(what + ": value()", got, due);
        }
    }

    static void feedAll(String what, GroupedReader reader, String text, int due) {
        for (int i = 0; i < text.length(); i++) {
            feed(what, reader, text.charAt(i), due);
        }
    }

    /** A new reader that has accepted every char of the text. */
    static GroupedReader accepted(String text) {
        GroupedReader reader = new GroupedReader();
        feedAll(text, reader, text, 0);
        return reader;
    }

    static void completeAfter(String text, boolean due) {
        complete("after \"" + text + "\"", accepted(text), due);
    }

    static void valueAfter(String text, long due) {
        value("after \"" + text + "\"", accepted(text), due);
    }

    static void feedAfter(String text, char c, int due) {
        feed("after \"" + text + "\"", accepted(text), c, due);
    }

    static String show(char c) {
        return c > ' ' && c < 127 ? "'" + c + "'" : "(char) " + (int) c;
    }
}
