/** A book about what was so when, and what was known of it when. */
public final class TwoTimes {
    public static final int BAD_THING = -1;
    public static final int BAD_DAYS = -2;
    public static final int FULL = -3;
    public static final int BAD_ENTRY = -4;
    public static final int NOTHING = -5;

    private static final int THINGS = 6;
    private static final int DAYS = 100;
    private static final int MOST_ENTRIES = 40;
    private static final int NO_SOURCE = -1;

    // Entry number n stands at index n - 1. Only the entries are kept: what is
    // known as of any number follows from them.
    private final int[] entryThing = new int[MOST_ENTRIES];
    private final int[] entryFrom = new int[MOST_ENTRIES];
    private final int[] entryTo = new int[MOST_ENTRIES];
    private final boolean[] entryHasValue = new boolean[MOST_ENTRIES];
    private final int[] entryValue = new int[MOST_ENTRIES];
    private int entries;

    public TwoTimes() {
        entries = 0;
    }

    public int say(int thing, int days, int value) {
        return enter(thing, days, true, value);
    }

    public int unsay(int thing, int days) {
        return enter(thing, days, false, 0);
    }

    public int raise(int thing, int days, int more) {
        if (!isThing(thing)) {
            return BAD_THING;
        }
        if (!areDays(days)) {
            return BAD_DAYS;
        }
        int from = firstOf(days);
        int to = behindLastOf(days);
        return enterPieces(thing, thing, from, to, more);
    }

    public int copy(int from, int to) {
        if (!isThing(from) || !isThing(to)) {
            return BAD_THING;
        }
        return enterPieces(from, to, 0, DAYS, 0);
    }

    public void clear() {
        entries = 0;
    }

    public int at(int n, int thing, int day) {
        if (!isEntry(n)) {
            return BAD_ENTRY;
        }
        if (!isThing(thing)) {
            return BAD_THING;
        }
        if (!isDay(day)) {
            return BAD_DAYS;
        }
        int source = sourceOf(n, thing, day);
        return source == NO_SOURCE ? NOTHING : entryValue[source];
    }

    public boolean known(int n, int thing, int day) {
        if (!isEntry(n) || !isThing(thing) || !isDay(day)) {
            return false;
        }
        return sourceOf(n, thing, day) != NO_SOURCE;
    }

    public int pieces(int n, int thing) {
        if (!isEntry(n)) {
            return BAD_ENTRY;
        }
        if (!isThing(thing)) {
            return BAD_THING;
        }
        return countPieces(n, thing, 0, DAYS);
    }

    public int pieceFrom(int n, int thing, int i) {
        if (!isEntry(n)) {
            return BAD_ENTRY;
        }
        if (!isThing(thing)) {
            return BAD_THING;
        }
        return startOfPiece(n, thing, i);
    }

    public int pieceTo(int n, int thing, int i) {
        if (!isEntry(n)) {
            return BAD_ENTRY;
        }
        if (!isThing(thing)) {
            return BAD_THING;
        }
        int start = startOfPiece(n, thing, i);
        return start == NOTHING ? NOTHING : endOfPiece(n, thing, start, DAYS);
    }

    public int sumAt(int n, int day) {
        if (!isEntry(n)) {
            return BAD_ENTRY;
        }
        if (!isDay(day)) {
            return BAD_DAYS;
        }
        int sum = 0;
        for (int thing = 0; thing < THINGS; thing++) {
            int source = sourceOf(n, thing, day);
            if (source != NO_SOURCE) {
                sum += entryValue[source];
            }
        }
        return sum;
    }

    public int changed(int n, int m, int thing) {
        if (!isEntry(n) || !isEntry(m)) {
            return BAD_ENTRY;
        }
        if (!isThing(thing)) {
            return BAD_THING;
        }
        int count = 0;
        for (int day = 0; day < DAYS; day++) {
            int asOfN = sourceOf(n, thing, day);
            int asOfM = sourceOf(m, thing, day);
            if (!saySame(asOfN, asOfM)) {
                count++;
            }
        }
        return count;
    }

    public int since(int thing, int day) {
        if (!isThing(thing)) {
            return BAD_THING;
        }
        if (!isDay(day)) {
            return BAD_DAYS;
        }
        int now = sourceOf(entries, thing, day);
        for (int n = entries; n > 0; n--) {
            int before = sourceOf(n - 1, thing, day);
            if (!saySame(before, now)) {
                return n;
            }
        }
        return 0;
    }

    private boolean isEntry(int n) {
        return 0 <= n && n <= entries;
    }

    private static boolean isThing(int thing) {
        return 0 <= thing && thing < THINGS;
    }

    private static boolean isDay(int day) {
        return 0 <= day && day < DAYS;
    }

    private static boolean areDays(int days) {
        int from = firstOf(days);
        int to = behindLastOf(days);
        return from < to && to <= DAYS;
    }

    private static int firstOf(int days) {
        return days & 127;
    }

    private static int behindLastOf(int days) {
        return (days >> 7) & 127;
    }

    private int enter(int thing, int days, boolean hasValue, int value) {
        if (!isThing(thing)) {
            return BAD_THING;
        }
        if (!areDays(days)) {
            return BAD_DAYS;
        }
        if (entries >= MOST_ENTRIES) {
            return FULL;
        }
        int from = firstOf(days);
        int to = behindLastOf(days);
        append(thing, from, to, hasValue, value);
        return entries;
    }

    private int enterPieces(int fromThing, int toThing, int from, int to, int more) {
        // The new entries may change the very pieces they are made from, so
        // the pieces are read as of the number at which the call began.
        int begin = entries;
        int count = countPieces(begin, fromThing, from, to);
        if (begin + count > MOST_ENTRIES) {
            return FULL;
        }
        for (int day = from; day < to; day++) {
            if (startsPiece(begin, fromThing, day, from)) {
                int source = sourceOf(begin, fromThing, day);
                int end = endOfPiece(begin, fromThing, day, to);
                append(toThing, day, end, true, entryValue[source] + more);
            }
        }
        return count;
    }

    private void append(int thing, int from, int to, boolean hasValue, int value) {
        entryThing[entries] = thing;
        entryFrom[entries] = from;
        entryTo[entries] = to;
        entryHasValue[entries] = hasValue;
        entryValue[entries] = value;
        entries++;
    }

    /** The index of the entry whose value is known there as of n, or NO_SOURCE. */
    private int sourceOf(int n, int thing, int day) {
        for (int index = n - 1; index >= 0; index--) {
            if (entryThing[index] == thing && entryFrom[index] <= day && day < entryTo[index]) {
                return entryHasValue[index] ? index : NO_SOURCE;
            }
        }
        return NO_SOURCE;
    }

    /** Compares sources, not answers of at: a value may equal NOTHING. */
    private boolean saySame(int source, int other) {
        if (source == NO_SOURCE || other == NO_SOURCE) {
            return source == other;
        }
        return entryValue[source] == entryValue[other];
    }

    /** Whether a piece, cut off ahead of the day from, begins at the day. */
    private boolean startsPiece(int n, int thing, int day, int from) {
        int here = sourceOf(n, thing, day);
        if (here == NO_SOURCE) {
            return false;
        }
        if (day == from) {
            return true;
        }
        int before = sourceOf(n, thing, day - 1);
        return !saySame(before, here);
    }

    /** The day behind the piece that the day start lies in, cut off at the day to. */
    private int endOfPiece(int n, int thing, int start, int to) {
        int first = sourceOf(n, thing, start);
        for (int day = start + 1; day < to; day++) {
            int here = sourceOf(n, thing, day);
            if (!saySame(first, here)) {
                return day;
            }
        }
        return to;
    }

    private int countPieces(int n, int thing, int from, int to) {
        int count = 0;
        for (int day = from; day < to; day++) {
            if (startsPiece(n, thing, day, from)) {
                count++;
            }
        }
        return count;
    }

    private int startOfPiece(int n, int thing, int i) {
        int passed = 0;
        for (int day = 0; day < DAYS; day++) {
            if (startsPiece(n, thing, day, 0)) {
                if (passed == i) {
                    return day;
                }
                passed++;
            }
        }
        return NOTHING;
    }
}
