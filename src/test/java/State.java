/** The state that the document gives a reader after an accepted text, and what is due in it. */
record State(String text, long value, int group, boolean comma) {
    // Each way that group and comma can stand, with values of 0, below the limit and at it.
    static final State[] ALL = {
        new State("", 0L, 0, false),
        new State("0", 0L, 1, false),
        new State("7", 7L, 1, false),
        new State("00", 0L, 2, false),
        new State("12", 12L, 2, false),
        new State("000", 0L, 3, false),
        new State("007", 7L, 3, false),
        new State("123", 123L, 3, false),
        new State("0,", 0L, 0, true),
        new State("1,", 1L, 0, true),
        new State("12,", 12L, 0, true),
        new State("123,", 123L, 0, true),
        new State("0,0", 0L, 1, true),
        new State("1,2", 12L, 1, true),
        new State("0,00", 0L, 2, true),
        new State("1,23", 123L, 2, true),
        new State("0,000", 0L, 3, true),
        new State("1,234", 1234L, 3, true),
        new State("12,345", 12345L, 3, true),
        new State("123,456", 123456L, 3, true),
        new State("1,234,", 1234L, 0, true),
        new State("1,234,5", 12345L, 1, true),
        new State("1,234,56", 123456L, 2, true),
        new State("1,234,567", 1234567L, 3, true),
        new State("500,000,000,", 500000000L, 0, true),
        new State("500,000,000,0", Check.LIMIT, 1, true),
        new State("50,000,000,00", Check.LIMIT, 2, true),
        new State("4,999,999,999", 4999999999L, 3, true),
        new State("4,999,999,999,", 4999999999L, 0, true),
        new State("5,000,000,000", Check.LIMIT, 3, true),
        new State("5,000,000,001", Check.LIMIT, 3, true),
        new State("9,999,999,999", Check.LIMIT, 3, true),
        new State("9,999,999,999,", Check.LIMIT, 0, true),
        new State("9,999,999,999,9", Check.LIMIT, 1, true),
        new State("9,999,999,999,99", Check.LIMIT, 2, true),
        new State("9,999,999,999,999", Check.LIMIT, 3, true),
    };

    private static final int GROUP_SIZE = 3;

    boolean whole() {
        return comma ? group == GROUP_SIZE : group >= 1;
    }

    static boolean isDigit(char c) {
        return c >= '0' && c <= '9';
    }

    int answer(char c) {
        if (isDigit(c)) {
            return group == GROUP_SIZE ? 1 : 0;
        }
        if (c == ',') {
            return whole() ? 0 : 2;
        }
        return 3;
    }

    State after(char c) {
        if (answer(c) != 0) {
            return this;
        }
        if (c == ',') {
            return new State(text + c, value, 0, true);
        }
        long result = value * 10L + (c - '0');
        return new State(text + c, Math.min(result, Check.LIMIT), group + 1, comma);
    }

    GroupedReader reader() {
        return Check.accepted(text);
    }

    /**
     * Looks whether the reader stands in this state. The group can't be asked for, so this fills
     * it with zeros and sees how many it takes, and when the text becomes whole: the reader is
     * used up.
     */
    void look(String what, GroupedReader reader) {
        Check.value(what, reader, value);
        State state = this;
        Check.complete(what, reader, state.whole());
        while (state.group < GROUP_SIZE) {
            Check.feed(what, reader, '0', 0);
            state = state.after('0');
            Check.complete(what, reader, state.whole());
            Check.value(what, reader, state.value);
        }
        Check.feed(what, reader, '0', 1);
    }

    static void lookAfter(String text, long value, int group, boolean comma) {
        new State(text, value, group, comma).look("after \"" + text + "\"", Check.accepted(text));
    }
}
