public final class GroupedReader {
    private static final long VALUE_LIMIT = 5000000000L;
    private static final int GROUP_SIZE = 3;

    private static final int ACCEPTED = 0;
    private static final int GROUP_FULL = 1;
    private static final int NOT_WHOLE = 2;
    private static final int UNKNOWN_CHAR = 3;

    private long value;
    private int group;
    private boolean comma;

    public GroupedReader() {
        value = 0L;
        group = 0;
        comma = false;
    }

    public int feed(char c) {
        // Only the ten ASCII digits count: digits of other scripts are refused.
        if (c >= '0' && c <= '9') {
            return feedDigit(c - '0');
        }
        if (c == ',') {
            return feedComma();
        }
        return UNKNOWN_CHAR;
    }

    public boolean complete() {
        return isWhole();
    }

    public long value() {
        return value;
    }

    private int feedDigit(int digit) {
        if (group == GROUP_SIZE) {
            return GROUP_FULL;
        }
        group = group + 1;
        // The old value is at most the limit, so this can't wrap around.
        long grown = value * 10L + digit;
        value = grown > VALUE_LIMIT ? VALUE_LIMIT : grown;
        return ACCEPTED;
    }

    private int feedComma() {
        if (!isWhole()) {
            return NOT_WHOLE;
        }
        comma = true;
        group = 0;
        return ACCEPTED;
    }

    // Only the first group may be short: every group after a comma needs all its digits.
    private boolean isWhole() {
        if (comma) {
            return group == GROUP_SIZE;
        }
        return group >= 1;
    }
}
