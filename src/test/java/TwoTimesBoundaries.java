import java.util.List;
import java.util.function.Consumer;
import java.util.function.ToIntFunction;

/** A test of its own for each sentence of the document that names a boundary case. */
public final class TwoTimesBoundaries {
    private static final int BAD_THING = TwoTimes.BAD_THING;
    private static final int BAD_DAYS = TwoTimes.BAD_DAYS;
    private static final int FULL = TwoTimes.FULL;
    private static final int BAD_ENTRY = TwoTimes.BAD_ENTRY;
    private static final int NOTHING = TwoTimes.NOTHING;
    private static final int LEAST = Integer.MIN_VALUE;
    private static final int GREATEST = Integer.MAX_VALUE;

    private static final int ALL = days(0, 100);
    private static final int NO_DAYS = days(5, 5);
    private static final int[] BAD_THINGS = {-1, 6, LEAST, GREATEST};
    private static final int[] BAD_SINGLE_DAYS = {-1, 100, LEAST, GREATEST};
    private static final int[] ANSWERS = {BAD_THING, BAD_DAYS, FULL, BAD_ENTRY, NOTHING};

    private static String sentence = "";
    private static int sentences = 0;
    private static int checkedHere = 0;
    private static int checked = 0;
    private static int wrong = 0;

    public static void main(String[] args) {
        whatItIsAndTerms();
        writingCalls();
        readingCalls();
        System.out.println(sentences + " sentences, " + checked + " answers looked at, " + wrong + " not as due");
        if (wrong != 0) {
            System.exit(1);
        }
    }

    private static void whatItIsAndTerms() {
        test("an object is used for at most 512 calls", TwoTimesBoundaries::the512thCall);
        test("things are 0 to 5", TwoTimesBoundaries::things0To5);
        test("days are 0 to 99", TwoTimesBoundaries::days0To99);
        test("a value is an int", TwoTimesBoundaries::anyIntIsAValue);
        test("entries are numbered from 1 in the order they are made", TwoTimesBoundaries::numberedFrom1);
        test("at most 40 entries", TwoTimesBoundaries::atMost40);
        test("an entry speaks of the days from 'from' to 'to' - 1", TwoTimesBoundaries::fromAndTo);
        test("an entry speaks of one thing", TwoTimesBoundaries::oneThing);
        test("the last of the entries 1 to n that speaks of it counts", TwoTimesBoundaries::lastThatSpeaks);
        test("as of 0 nothing is known of anything", TwoTimesBoundaries::asOf0);
        test("as of now is as of the last entry", TwoTimesBoundaries::asOfNow);
        test("a piece is as long as possible", TwoTimesBoundaries::asLongAsPossible);
        test("stretches at which nothing is known are no pieces", TwoTimesBoundaries::gapsAreNoPieces);
        test("the same value from two entries counts as the same", TwoTimesBoundaries::sameFromTwoEntries);
        test("tests are made in the order in which they are named", TwoTimesBoundaries::orderOfTests);
        test("a refused call changes nothing", TwoTimesBoundaries::refusedChangesNothing);
        test("days are packed: from + 128 * to", TwoTimesBoundaries::packedDays);
        test("other bits are not looked at", TwoTimesBoundaries::otherBits);
        test("not 0 <= from < to <= 100 is BAD_DAYS", TwoTimesBoundaries::badDays);
        test("the calls below change nothing", TwoTimesBoundaries::readingChangesNothing);
        test("n not in 0 to the number of entries: BAD_ENTRY", TwoTimesBoundaries::badEntry);
        test("BAD_ENTRY is tested first", TwoTimesBoundaries::badEntryFirst);
        test("a thing not in 0 to 5: BAD_THING, ahead of the day", TwoTimesBoundaries::badThingRead);
        test("a day not in 0 to 99: BAD_DAYS", TwoTimesBoundaries::badDayRead);
    }

    private static void writingCalls() {
        test("1: no entries", TwoTimesBoundaries::newObject);
        test("2: say, BAD_THING", () -> refusesThings(1, x -> t -> x.say(t, ALL, 1)));
        test("2: say, BAD_DAYS", () -> refusesDays(x -> d -> x.say(0, d, 1)));
        test("2: say, there are forty: FULL", () -> fullAtForty(x -> x.say(0, ALL, 1)));
        test("2: say, else its number", () -> answersItsNumber(x -> x.say(0, ALL, 1)));
        test("3: unsay, BAD_THING", () -> refusesThings(1, x -> t -> x.unsay(t, ALL)));
        test("3: unsay, BAD_DAYS", () -> refusesDays(x -> d -> x.unsay(0, d)));
        test("3: unsay, FULL", () -> fullAtForty(x -> x.unsay(0, ALL)));
        test("3: unsay, else its number", () -> answersItsNumber(x -> x.unsay(0, ALL)));
        test("3: unsay, nothing is known", TwoTimesBoundaries::unsaid);
        test("4: raise, a piece at least partly in the days", TwoTimesBoundaries::raisePartly);
        test("4: raise, the part of the piece in the days", TwoTimesBoundaries::raiseOnlyThePart);
        test("4: raise, wrapping", TwoTimesBoundaries::raiseWraps);
        test("4: raise, as of now when the call begins", TwoTimesBoundaries::raiseAsOfItsBegin);
        test("4: raise, in the order of days", TwoTimesBoundaries::raiseInOrderOfDays);
        test("4: raise, BAD_THING", () -> refusesThings(0, x -> t -> x.raise(t, ALL, 1)));
        test("4: raise, BAD_DAYS", () -> refusesDays(x -> d -> x.raise(0, d, 1)));
        test("4: raise, there would be more than forty: FULL",
            () -> fullIfMoreThanForty(x -> x.raise(0, ALL, 1)));
        test("4: raise, pieces outside the days do not count for FULL", TwoTimesBoundaries::raiseCountsOnlyItsDays);
        test("4: raise, how many entries were made", () -> howManyWereMade(x -> x.raise(0, ALL, 1)));
        test("5: copy, as of now when the call begins", TwoTimesBoundaries::copyAsOfItsBegin);
        test("5: copy, in the order of days", TwoTimesBoundaries::copyInOrderOfDays);
        test("5: copy, the same of 'to' for the same days", TwoTimesBoundaries::copyOnlyPieces);
        test("5: copy, BAD_THING for 'from'", () -> refusesThings(0, x -> t -> x.copy(t, 0)));
        test("5: copy, BAD_THING for 'to'", () -> refusesThings(0, x -> t -> x.copy(0, t)));
        test("5: copy, there would be more than forty: FULL", () -> fullIfMoreThanForty(x -> x.copy(0, 1)));
        test("5: copy, how many entries were made", () -> howManyWereMade(x -> x.copy(0, 1)));
        test("5: copy, the two may be the same", TwoTimesBoundaries::copyOntoItself);
        test("5: copy, the two may be the same: how many", () -> howManyWereMade(x -> x.copy(0, 0)));
        test("5: copy, the two may be the same: FULL", () -> fullIfMoreThanForty(x -> x.copy(0, 0)));
        test("6: clear, the book is empty again", TwoTimesBoundaries::emptyAgain);
    }

    private static void readingCalls() {
        test("7: at, NOTHING if none is", TwoTimesBoundaries::atNothing);
        test("7: at, values may equal these answers", TwoTimesBoundaries::valuesLikeAnswers);
        test("8: known, whether something is known", TwoTimesBoundaries::knownOrNot);
        test("8: known, false for a bad n, thing or day", TwoTimesBoundaries::knownIsFalseForBad);
        test("9: pieces, how many", TwoTimesBoundaries::fewestAndMostPieces);
        test("10: pieceFrom, from 0 in the order of days", TwoTimesBoundaries::pieceFromInOrder);
        test("10: pieceFrom, NOTHING if there is none", () -> noSuchPiece(x -> i -> x.pieceFrom(2, 0, i)));
        test("11: pieceTo, the day behind the last one", TwoTimesBoundaries::pieceToBehind);
        test("11: pieceTo, NOTHING", () -> noSuchPiece(x -> i -> x.pieceTo(2, 0, i)));
        test("12: sumAt, wrapping", TwoTimesBoundaries::sumWraps);
        test("12: sumAt, of what is known of all things", TwoTimesBoundaries::sumOfAllThings);
        test("13: changed, another value", TwoTimesBoundaries::changedToAnotherValue);
        test("13: changed, nothing instead of a value", TwoTimesBoundaries::changedToNothing);
        test("13: changed, the other way round", TwoTimesBoundaries::changedFromNothing);
        test("13: changed, both have to be entry numbers", TwoTimesBoundaries::bothEntryNumbers);
        test("14: since, the least n", TwoTimesBoundaries::leastSince);
        test("14: since, as of every number between", TwoTimesBoundaries::sameBetween);
        test("14: since, BAD_THING", () -> refusesThings(0, x -> t -> x.since(t, 0)));
        test("14: since, BAD_THING ahead of BAD_DAYS", () -> refusesThings(BAD_DAYS, x -> t -> x.since(t, 100)));
        test("14: since, BAD_DAYS", TwoTimesBoundaries::sinceBadDays);
        test("15: changed, n and m may each be 0 to the number of entries", TwoTimesBoundaries::changedLimits);
    }

    // ---- how a test is made

    /** A call with one argument left open. */
    private interface Open {
        ToInt on(TwoTimes x);
    }

    private interface ToInt {
        int call(int argument);
    }

    private static void test(String words, Runnable body) {
        sentence = words;
        sentences++;
        checkedHere = 0;
        try {
            body.run();
        } catch (RuntimeException thrown) {
            // A call that throws must not hide the sentences behind this one.
            wrong++;
            System.out.println(words + ": thrown was " + thrown);
        }
        if (checkedHere == 0) {
            wrong++;
            System.out.println(words + ": no answer was looked at");
        }
    }

    private static void due(String call, long got, long want) {
        checked++;
        checkedHere++;
        if (got != want) {
            wrong++;
            System.out.println(sentence + ": " + call + " answered " + got + ", due is " + want);
        }
    }

    private static void due(String call, boolean got, boolean want) {
        due(call, got ? 1 : 0, want ? 1 : 0);
    }

    private static int days(int from, int to) {
        return from + 128 * to;
    }

    /** A book of so many entries, all of thing 5, entry k saying k at day 0. */
    private static TwoTimes withEntries(int count) {
        TwoTimes x = new TwoTimes();
        for (int k = 1; k <= count; k++) {
            x.say(5, days(0, 1), k);
        }
        return x;
    }

    /** So many entries, of which the last ones make so many pieces of thing 0, each of one day. */
    private static TwoTimes withPieces(int count, int pieces) {
        TwoTimes x = withEntries(count - pieces);
        for (int k = 0; k < pieces; k++) {
            x.say(0, days(2 * k, 2 * k + 1), 100 + k);
        }
        return x;
    }

    private static void dueEntries(TwoTimes x, int count) {
        due("the last entry number is good", x.pieces(count, 4) >= 0, true);
        due("the next entry number is bad", x.pieces(count + 1, 4), BAD_ENTRY);
    }

    /** From, to, value of each piece in order, and no piece behind them. */
    private static void duePieces(TwoTimes x, int n, int thing, int... pieces) {
        int count = pieces.length / 3;
        String of = " of thing " + thing + " as of " + n;
        due("pieces" + of, x.pieces(n, thing), count);
        for (int i = 0; i < count; i++) {
            int from = pieces[3 * i];
            int to = pieces[3 * i + 1];
            due("pieceFrom " + i + of, x.pieceFrom(n, thing, i), from);
            due("pieceTo " + i + of, x.pieceTo(n, thing, i), to);
            due("at the first day of piece " + i + of, x.at(n, thing, from), pieces[3 * i + 2]);
            due("at the last day of piece " + i + of, x.at(n, thing, to - 1), pieces[3 * i + 2]);
        }
    }

    /** Answers that together show every entry of the books used here; below 300 calls. */
    private static String look(TwoTimes x) {
        StringBuilder seen = new StringBuilder();
        for (int n = 0; n <= 41; n++) {
            seen.append(x.sumAt(n, 0)).append(' ').append(x.sumAt(n, 2)).append(' ');
            seen.append(x.pieces(n, 0)).append(' ').append(x.changed(0, n, 1)).append(' ');
        }
        for (int thing = 0; thing < 6; thing++) {
            seen.append(x.since(thing, 0)).append(' ').append(x.since(thing, 99)).append(' ');
        }
        return seen.toString();
    }

    // ---- what it is, and terms

    private static void the512thCall() {
        TwoTimes x = new TwoTimes();
        for (int round = 0; round < 12; round++) {
            for (int k = 1; k <= 40; k++) {
                due("say", x.say(k % 6, ALL, k), k);
            }
            due("the forty-first say", x.say(0, ALL, 1), FULL);
            x.clear();
        }
        due("call 505", x.say(0, days(3, 9), 7), 1);
        due("call 506", x.raise(0, ALL, 1), 1);
        due("call 507", x.copy(0, 5), 1);
        due("call 508", x.unsay(5, days(3, 4)), 4);
        due("call 509", x.pieceFrom(4, 5, 0), 4);
        due("call 510", x.changed(0, 4, 5), 5);
        due("call 511", x.say(1, ALL, 3), 5);
        due("call 512", x.at(5, 1, 99), 3);
    }

    private static void things0To5() {
        TwoTimes x = new TwoTimes();
        for (int thing = 0; thing <= 5; thing++) {
            due("say", x.say(thing, ALL, thing), 3 * thing + 1);
            due("unsay", x.unsay(thing, days(0, 1)), 3 * thing + 2);
            due("raise", x.raise(thing, ALL, 10), 1);
            int n = 3 * thing + 3;
            due("at", x.at(n, thing, 50), thing + 10);
            due("known", x.known(n, thing, 50), true);
            due("pieces", x.pieces(n, thing), 1);
            due("pieceFrom", x.pieceFrom(n, thing, 0), 1);
            due("pieceTo", x.pieceTo(n, thing, 0), 100);
            due("changed", x.changed(0, n, thing), 99);
            due("since", x.since(thing, 50), n);
        }
        for (int thing = 0; thing <= 5; thing++) {
            due("copy", x.copy(thing, 5 - thing), 1);
        }
        due("copied from 0 to 5", x.at(24, 5, 50), 10);
        due("copied back to 0", x.at(24, 0, 50), 10);
    }

    private static void days0To99() {
        TwoTimes x = new TwoTimes();
        x.say(0, ALL, 7);
        for (int day = 0; day <= 99; day++) {
            due("at day " + day, x.at(1, 0, day), 7);
            due("known at day " + day, x.known(1, 0, day), true);
            due("sumAt day " + day, x.sumAt(1, day), 7);
            due("since at day " + day, x.since(0, day), 1);
        }
        due("changed counts all days", x.changed(0, 1, 0), 100);
        duePieces(x, 1, 0, 0, 100, 7);
    }

    private static void anyIntIsAValue() {
        for (int value : new int[] {LEAST, LEAST + 1, -1, 0, 1, GREATEST - 1, GREATEST}) {
            TwoTimes x = new TwoTimes();
            x.say(0, ALL, value);
            due("at", x.at(1, 0, 0), value);
            due("known", x.known(1, 0, 0), true);
            due("pieces", x.pieces(1, 0), 1);
            due("sumAt", x.sumAt(1, 0), value);
            due("changed", x.changed(0, 1, 0), 100);
            due("since", x.since(0, 0), 1);
        }
    }

    private static void numberedFrom1() {
        TwoTimes x = new TwoTimes();
        due("the first say", x.say(0, days(0, 1), 1), 1);
        due("unsay", x.unsay(1, ALL), 2);
        x.say(0, days(2, 3), 1);
        due("a raise of two pieces", x.raise(0, ALL, 1), 2);
        due("say behind the raise", x.say(1, ALL, 1), 6);
        due("a copy of one piece", x.copy(1, 2), 1);
        due("say behind the copy", x.say(1, ALL, 1), 8);
        due("a copy of no piece", x.copy(3, 2), 0);
        due("a refused say", x.say(6, ALL, 1), BAD_THING);
        due("say behind calls that made none", x.say(1, ALL, 1), 9);
    }

    private static void atMost40() {
        TwoTimes x = withEntries(39);
        dueEntries(x, 39);
        due("the fortieth", x.say(0, ALL, 1), 40);
        dueEntries(x, 40);
        due("the forty-first", x.say(0, ALL, 2), FULL);
        dueEntries(x, 40);
        for (int n = 1; n <= 39; n++) {
            due("at as of " + n, x.at(n, 5, 0), n);
        }
        due("as of 40", x.at(40, 0, 99), 1);
    }

    private static void fromAndTo() {
        int[][] stretches = {{0, 1}, {0, 50}, {0, 100}, {49, 51}, {50, 100}, {99, 100}};
        for (int[] stretch : stretches) {
            TwoTimes said = new TwoTimes();
            said.say(3, days(stretch[0], stretch[1]), 8);
            TwoTimes unsaid = new TwoTimes();
            unsaid.say(3, ALL, 8);
            unsaid.unsay(3, days(stretch[0], stretch[1]));
            for (int day = 0; day < 100; day++) {
                boolean inside = stretch[0] <= day && day < stretch[1];
                due("known of what was said at day " + day, said.known(1, 3, day), inside);
                due("known of what was unsaid at day " + day, unsaid.known(2, 3, day), !inside);
            }
        }
    }

    private static void oneThing() {
        for (int thing = 0; thing < 6; thing++) {
            TwoTimes x = new TwoTimes();
            x.say(thing, ALL, 4);
            x.unsay((thing + 1) % 6, ALL);
            for (int other = 0; other < 6; other++) {
                due("known of " + other, x.known(2, other, 50), other == thing);
                due("changed of " + other, x.changed(0, 2, other), other == thing ? 100 : 0);
                due("since of " + other, x.since(other, 50), other == thing ? 1 : 0);
            }
        }
    }

    private static void lastThatSpeaks() {
        TwoTimes x = new TwoTimes();
        x.say(0, days(10, 20), 1);
        x.say(1, ALL, 9);
        x.say(0, days(15, 25), 2);
        x.unsay(0, days(18, 22));
        x.say(0, days(19, 20), 3);
        int[][] dayThenAsOf0To5 = {
            {9, NOTHING, NOTHING, NOTHING, NOTHING, NOTHING, NOTHING},
            {10, NOTHING, 1, 1, 1, 1, 1},
            {14, NOTHING, 1, 1, 1, 1, 1},
            {15, NOTHING, 1, 1, 2, 2, 2},
            {18, NOTHING, 1, 1, 2, NOTHING, NOTHING},
            {19, NOTHING, 1, 1, 2, NOTHING, 3},
            {20, NOTHING, NOTHING, NOTHING, 2, NOTHING, NOTHING},
            {22, NOTHING, NOTHING, NOTHING, 2, 2, 2},
            {24, NOTHING, NOTHING, NOTHING, 2, 2, 2},
            {25, NOTHING, NOTHING, NOTHING, NOTHING, NOTHING, NOTHING},
        };
        for (int[] row : dayThenAsOf0To5) {
            for (int n = 0; n <= 5; n++) {
                due("at day " + row[0] + " as of " + n, x.at(n, 0, row[0]), row[n + 1]);
                due("known at day " + row[0] + " as of " + n, x.known(n, 0, row[0]), row[n + 1] != NOTHING);
            }
        }
    }

    private static void asOf0() {
        TwoTimes x = new TwoTimes();
        for (int k = 0; k < 40; k++) {
            x.say(k % 6, ALL, k + 1);
        }
        for (TwoTimes book : List.of(new TwoTimes(), x)) {
            for (int thing = 0; thing < 6; thing++) {
                for (int day : new int[] {0, 50, 99}) {
                    due("at", book.at(0, thing, day), NOTHING);
                    due("known", book.known(0, thing, day), false);
                    due("sumAt", book.sumAt(0, day), 0);
                }
                due("pieces", book.pieces(0, thing), 0);
                due("pieceFrom", book.pieceFrom(0, thing, 0), NOTHING);
                due("pieceTo", book.pieceTo(0, thing, 0), NOTHING);
            }
        }
    }

    private static void asOfNow() {
        TwoTimes x = new TwoTimes();
        x.say(0, ALL, 1);
        x.say(0, days(50, 100), 2);
        due("raise of what the last entry left", x.raise(0, days(40, 60), 10), 2);
        duePieces(x, 4, 0, 0, 40, 1, 40, 50, 11, 50, 60, 12, 60, 100, 2);
        due("copy of what the last entry left", x.copy(0, 1), 4);
        due("since, the last entry", x.since(1, 99), 8);
        x.unsay(0, ALL);
        due("raise of what is unsaid now", x.raise(0, ALL, 1), 0);
        due("copy of what is unsaid now", x.copy(0, 1), 0);
        due("since, the last entry", x.since(0, 0), 9);
    }

    private static void asLongAsPossible() {
        TwoTimes x = new TwoTimes();
        x.say(0, days(10, 20), 1);
        x.say(0, days(30, 40), 1);
        duePieces(x, 2, 0, 10, 20, 1, 30, 40, 1);
        x.say(0, days(20, 30), 1);
        duePieces(x, 3, 0, 10, 40, 1);
        x.say(0, days(0, 10), 1);
        duePieces(x, 4, 0, 0, 40, 1);
        x.say(0, days(40, 100), 1);
        duePieces(x, 5, 0, 0, 100, 1);
        x.say(0, days(50, 51), 2);
        duePieces(x, 6, 0, 0, 50, 1, 50, 51, 2, 51, 100, 1);
        due("a piece over three entries, raised", x.raise(0, days(0, 50), 1), 1);
        duePieces(x, 7, 0, 0, 51, 2, 51, 100, 1);
    }

    private static void gapsAreNoPieces() {
        TwoTimes x = new TwoTimes();
        x.say(0, days(1, 50), 1);
        x.say(0, days(51, 99), 1);
        duePieces(x, 2, 0, 1, 50, 1, 51, 99, 1);
        due("no piece behind the last day known", x.pieceFrom(2, 0, 2), NOTHING);
        x.unsay(0, days(1, 2));
        x.unsay(0, days(98, 99));
        x.unsay(0, days(70, 71));
        duePieces(x, 5, 0, 2, 50, 1, 51, 70, 1, 71, 98, 1);
        due("raise makes no entry for a gap", x.raise(0, ALL, 1), 3);
        due("copy makes no entry for a gap", x.copy(0, 1), 3);
        x.unsay(0, ALL);
        duePieces(x, 12, 0);
    }

    private static void sameFromTwoEntries() {
        TwoTimes x = new TwoTimes();
        x.say(0, days(0, 10), 4);
        x.say(0, days(10, 20), 4);
        x.say(0, days(5, 15), 4);
        duePieces(x, 3, 0, 0, 20, 4);
        due("raise", x.raise(0, days(5, 15), 0), 1);
        due("copy", x.copy(0, 1), 1);
        due("changed", x.changed(2, 5, 0), 0);
        due("since", x.since(0, 7), 1);
        x.say(0, days(0, 10), 3);
        due("raised to the same", x.raise(0, days(0, 10), 1), 1);
        duePieces(x, 7, 0, 0, 20, 4);
        due("changed there and back", x.changed(5, 7, 0), 0);
    }

    private static void orderOfTests() {
        TwoTimes x = withPieces(40, 2);
        due("say, all is wrong", x.say(6, NO_DAYS, 1), BAD_THING);
        due("say, thing and full", x.say(6, ALL, 1), BAD_THING);
        due("say, days and full", x.say(0, NO_DAYS, 1), BAD_DAYS);
        due("say, full", x.say(0, ALL, 1), FULL);
        due("unsay, all is wrong", x.unsay(-1, NO_DAYS), BAD_THING);
        due("unsay, thing and full", x.unsay(-1, ALL), BAD_THING);
        due("unsay, days and full", x.unsay(0, NO_DAYS), BAD_DAYS);
        due("unsay, full", x.unsay(0, ALL), FULL);
        due("raise, all is wrong", x.raise(6, NO_DAYS, 1), BAD_THING);
        due("raise, thing and full", x.raise(6, ALL, 1), BAD_THING);
        due("raise, days and full", x.raise(0, NO_DAYS, 1), BAD_DAYS);
        due("raise, full", x.raise(0, ALL, 1), FULL);
        due("copy, from and full", x.copy(6, 0), BAD_THING);
        due("copy, to and full", x.copy(0, 6), BAD_THING);
        due("copy, full", x.copy(0, 1), FULL);
    }

    private static void refusedChangesNothing() {
        List<ToIntFunction<TwoTimes>> refused = List.of(
            x -> x.say(6, ALL, 1), x -> x.say(-1, ALL, 1), x -> x.say(0, NO_DAYS, 1),
            x -> x.unsay(6, ALL), x -> x.unsay(-1, ALL), x -> x.unsay(0, days(0, 101)),
            x -> x.raise(6, ALL, 1), x -> x.raise(-1, ALL, 1), x -> x.raise(0, NO_DAYS, 1),
            x -> x.copy(6, 0), x -> x.copy(-1, 0), x -> x.copy(0, 6), x -> x.copy(0, -1),
            x -> x.raise(0, ALL, 1), x -> x.copy(0, 1), x -> x.copy(0, 0));
        for (ToIntFunction<TwoTimes> call : refused) {
            TwoTimes x = withPieces(39, 2);
            due("the call is refused", call.applyAsInt(x) < 0, true);
            due("the book is as it was", look(x).equals(look(withPieces(39, 2))), true);
            due("the next number", x.say(0, ALL, 1), 40);
        }
        List<ToIntFunction<TwoTimes>> refusedWhenFull = List.of(
            x -> x.say(0, ALL, 1), x -> x.unsay(0, ALL), x -> x.raise(0, days(0, 1), 1), x -> x.copy(5, 1));
        for (ToIntFunction<TwoTimes> call : refusedWhenFull) {
            TwoTimes x = withPieces(40, 2);
            due("the call is refused", call.applyAsInt(x), FULL);
            due("the full book is as it was", look(x).equals(look(withPieces(40, 2))), true);
        }
    }

    private static void packedDays() {
        int[][] packed = {{128, 0, 1}, {12800, 0, 100}, {99 + 12800, 99, 100}, {1 + 256, 1, 2}, {63 + 8192, 63, 64}};
        for (int[] row : packed) {
            TwoTimes x = new TwoTimes();
            due("say", x.say(0, row[0], 3), 1);
            duePieces(x, 1, 0, row[1], row[2], 3);
            due("raise", x.raise(0, row[0], 1), 1);
            duePieces(x, 2, 0, row[1], row[2], 4);
            due("unsay", x.unsay(0, row[0]), 3);
            duePieces(x, 3, 0);
        }
    }

    private static void otherBits() {
        for (int bit = 14; bit < 32; bit++) {
            for (int bits : new int[] {1 << bit, -1 << bit}) {
                TwoTimes x = new TwoTimes();
                due("say", x.say(0, bits | days(20, 100), 3), 1);
                due("unsay", x.unsay(0, bits | days(40, 50)), 2);
                due("raise", x.raise(0, bits | days(45, 60), 4), 1);
                duePieces(x, 3, 0, 20, 40, 3, 50, 60, 7, 60, 100, 3);
                due("say with bad days", x.say(0, bits | days(7, 7), 3), BAD_DAYS);
                due("unsay with bad days", x.unsay(0, bits | days(7, 101)), BAD_DAYS);
                due("raise with bad days", x.raise(0, bits, 3), BAD_DAYS);
            }
        }
    }

    private static void badDays() {
        for (int from = 0; from < 128; from++) {
            for (int to = 0; to < 128; to++) {
                boolean good = from < to && to <= 100;
                String on = " from " + from + " to " + to;
                due("say" + on, new TwoTimes().say(0, days(from, to), 1), good ? 1 : BAD_DAYS);
                due("unsay" + on, new TwoTimes().unsay(0, days(from, to)), good ? 1 : BAD_DAYS);
                due("raise" + on, new TwoTimes().raise(0, days(from, to), 1), good ? 0 : BAD_DAYS);
            }
        }
    }

    private static void readingChangesNothing() {
        List<Consumer<TwoTimes>> reads = List.of(
            x -> x.at(39, 0, 0), x -> x.at(40, 0, 0), x -> x.at(0, 6, 0), x -> x.at(0, 0, 100),
            x -> x.known(39, 0, 0), x -> x.known(40, 6, 100), x -> x.pieces(38, 0), x -> x.pieces(40, 6),
            x -> x.pieceFrom(39, 0, 1), x -> x.pieceFrom(-1, 6, -1), x -> x.pieceTo(39, 0, 1),
            x -> x.pieceTo(39, 0, GREATEST), x -> x.sumAt(39, 0), x -> x.sumAt(40, 100),
            x -> x.changed(39, 0, 0), x -> x.changed(0, 40, 6), x -> x.since(0, 0), x -> x.since(6, 100));
        String untouched = look(withPieces(39, 2));
        for (Consumer<TwoTimes> read : reads) {
            TwoTimes x = withPieces(39, 2);
            read.accept(x);
            due("the book is as it was", look(x).equals(untouched), true);
            due("the next number", x.say(0, ALL, 1), 40);
        }
    }

    private static void badEntry() {
        for (int count : new int[] {0, 1, 39, 40}) {
            for (int n : new int[] {0, count}) {
                dueBadEntry(withEntries(count), n, false);
            }
            for (int n : new int[] {-1, count + 1, LEAST, GREATEST}) {
                dueBadEntry(withEntries(count), n, true);
            }
        }
        TwoTimes cleared = withEntries(40);
        cleared.clear();
        dueBadEntry(cleared, 1, true);
        dueBadEntry(cleared, 40, true);
        dueBadEntry(cleared, 0, false);
    }

    private static void dueBadEntry(TwoTimes x, int n, boolean bad) {
        String on = " as of " + n;
        due("at" + on, x.at(n, 5, 0) == BAD_ENTRY, bad);
        due("pieces" + on, x.pieces(n, 5) == BAD_ENTRY, bad);
        due("pieceFrom" + on, x.pieceFrom(n, 5, 0) == BAD_ENTRY, bad);
        due("pieceTo" + on, x.pieceTo(n, 5, 0) == BAD_ENTRY, bad);
        due("sumAt" + on, x.sumAt(n, 0) == BAD_ENTRY, bad);
        due("changed" + on, x.changed(n, 0, 5) == BAD_ENTRY, bad);
    }

    private static void badEntryFirst() {
        TwoTimes x = withEntries(3);
        for (int n : new int[] {-1, 4, LEAST, GREATEST}) {
            due("at, all is wrong", x.at(n, 6, 100), BAD_ENTRY);
            due("at, n and thing", x.at(n, 6, 0), BAD_ENTRY);
            due("at, n and day", x.at(n, 0, 100), BAD_ENTRY);
            due("pieces", x.pieces(n, 6), BAD_ENTRY);
            due("pieceFrom, all is wrong", x.pieceFrom(n, 6, -1), BAD_ENTRY);
            due("pieceFrom, n and i", x.pieceFrom(n, 0, -1), BAD_ENTRY);
            due("pieceTo, all is wrong", x.pieceTo(n, 6, -1), BAD_ENTRY);
            due("pieceTo, n and i", x.pieceTo(n, 0, -1), BAD_ENTRY);
            due("sumAt", x.sumAt(n, 100), BAD_ENTRY);
            due("changed, all is wrong", x.changed(n, n, 6), BAD_ENTRY);
            due("changed, n and thing", x.changed(n, 0, 6), BAD_ENTRY);
        }
    }

    private static void badThingRead() {
        TwoTimes x = withEntries(3);
        for (int thing : BAD_THINGS) {
            for (int n : new int[] {0, 3}) {
                due("at", x.at(n, thing, 0), BAD_THING);
                due("at, thing and day", x.at(n, thing, 100), BAD_THING);
                due("pieces", x.pieces(n, thing), BAD_THING);
                due("pieceFrom", x.pieceFrom(n, thing, 0), BAD_THING);
                due("pieceFrom, thing and i", x.pieceFrom(n, thing, -1), BAD_THING);
                due("pieceTo", x.pieceTo(n, thing, 0), BAD_THING);
                due("pieceTo, thing and i", x.pieceTo(n, thing, -1), BAD_THING);
                due("changed", x.changed(n, 0, thing), BAD_THING);
            }
            due("changed with the same", x.changed(3, 3, thing), BAD_THING);
            due("since", x.since(thing, 0), BAD_THING);
        }
    }

    private static void badDayRead() {
        TwoTimes x = new TwoTimes();
        x.say(0, ALL, 1);
        for (int day : BAD_SINGLE_DAYS) {
            for (int n : new int[] {0, 1}) {
                due("at day " + day, x.at(n, 0, day), BAD_DAYS);
                due("sumAt day " + day, x.sumAt(n, day), BAD_DAYS);
            }
            due("since at day " + day, x.since(0, day), BAD_DAYS);
        }
    }

    // ---- the calls that write

    private static void newObject() {
        TwoTimes other = withEntries(40);
        TwoTimes x = new TwoTimes();
        dueEntries(x, 0);
        for (int thing = 0; thing < 6; thing++) {
            due("pieces", x.pieces(0, thing), 0);
            due("since", x.since(thing, 0), 0);
            due("raise", x.raise(thing, ALL, 1), 0);
            due("copy", x.copy(thing, 0), 0);
        }
        due("the first number", x.say(0, ALL, 1), 1);
        dueEntries(other, 40);
    }

    /** The good things at both ends get the given answer in an empty book. */
    private static void refusesThings(int answerForGood, Open call) {
        for (int thing : BAD_THINGS) {
            due("in an empty book, thing " + thing, call.on(new TwoTimes()).call(thing), BAD_THING);
            due("in a book of 39, thing " + thing, call.on(withEntries(39)).call(thing), BAD_THING);
            due("in a full book, thing " + thing, call.on(withEntries(40)).call(thing), BAD_THING);
        }
        for (int thing : new int[] {0, 5}) {
            due("in an empty book, thing " + thing, call.on(new TwoTimes()).call(thing), answerForGood);
        }
    }

    private static void refusesDays(Open call) {
        int[] bad = {
            0, days(0, 0), days(5, 5), days(6, 5), days(99, 99), days(100, 100), days(99, 98), days(0, 101),
            days(99, 101), days(100, 101), days(0, 127), days(127, 0), days(127, 127), -1, LEAST, GREATEST
        };
        for (int days : bad) {
            due("in an empty book, days " + days, call.on(new TwoTimes()).call(days), BAD_DAYS);
            due("in a full book, days " + days, call.on(withPieces(40, 2)).call(days), BAD_DAYS);
        }
        for (int days : new int[] {days(0, 1), days(0, 100), days(99, 100)}) {
            due("in an empty book, days " + days, call.on(new TwoTimes()).call(days) >= 0, true);
        }
    }

    private static void fullAtForty(ToIntFunction<TwoTimes> call) {
        due("with 39", call.applyAsInt(withEntries(39)), 40);
        due("with 40", call.applyAsInt(withEntries(40)), FULL);
        TwoTimes x = withEntries(39);
        call.applyAsInt(x);
        due("once more", call.applyAsInt(x), FULL);
        x.clear();
        due("after clear", call.applyAsInt(x), 1);
    }

    private static void answersItsNumber(ToIntFunction<TwoTimes> call) {
        TwoTimes x = new TwoTimes();
        for (int number = 1; number <= 40; number++) {
            due("number " + number, call.applyAsInt(x), number);
        }
    }

    private static void unsaid() {
        TwoTimes x = new TwoTimes();
        due("of what was never said", x.unsay(0, ALL), 1);
        duePieces(x, 1, 0);
        x.say(0, ALL, 0);
        due("one day", x.unsay(0, days(99, 100)), 3);
        due("known", x.known(3, 0, 99), false);
        due("at", x.at(3, 0, 99), NOTHING);
        duePieces(x, 3, 0, 0, 99, 0);
        duePieces(x, 2, 0, 0, 100, 0);
        due("sumAt", x.sumAt(3, 99), 0);
    }

    private static void raisePartly() {
        int[][] fromToMade = {
            {0, 40, 0}, {39, 40, 0}, {0, 41, 1}, {40, 41, 1}, {41, 49, 1}, {40, 50, 1}, {30, 60, 1},
            {49, 50, 1}, {49, 100, 1}, {50, 51, 0}, {50, 100, 0}, {0, 100, 1}
        };
        for (int[] row : fromToMade) {
            TwoTimes x = new TwoTimes();
            x.say(0, days(40, 50), 1);
            due("raise from " + row[0] + " to " + row[1], x.raise(0, days(row[0], row[1]), 1), row[2]);
            dueEntries(x, 1 + row[2]);
        }
        TwoTimes beside = new TwoTimes();
        beside.say(0, days(0, 50), 1);
        beside.say(0, days(50, 100), 2);
        due("the first of two that touch", beside.raise(0, days(0, 50), 5), 1);
        due("the second of two that touch", beside.raise(0, days(50, 100), 5), 1);
        due("the last day of one, the first of the other", beside.raise(0, days(49, 51), 5), 2);
    }

    private static void raiseOnlyThePart() {
        TwoTimes x = new TwoTimes();
        x.say(0, days(0, 30), 1);
        x.say(0, days(40, 70), 2);
        x.say(0, days(80, 100), 3);
        due("three, the outer two in part", x.raise(0, days(29, 81), 10), 3);
        duePieces(x, 6, 0, 0, 29, 1, 29, 30, 11, 40, 70, 12, 80, 81, 13, 81, 100, 3);
        due("one day inside a piece", x.raise(0, days(50, 51), 1), 1);
        duePieces(x, 7, 0, 0, 29, 1, 29, 30, 11, 40, 50, 12, 50, 51, 13, 51, 70, 12, 80, 81, 13, 81, 100, 3);
        due("another thing", x.pieces(7, 1), 0);
    }

    private static void raiseWraps() {
        int[][] valueMoreSum = {
            {GREATEST, 1, LEAST}, {LEAST, -1, GREATEST}, {GREATEST, GREATEST, -2}, {LEAST, LEAST, 0},
            {GREATEST, LEAST, -1}, {-1, 1, 0}, {7, 0, 7}, {-6, 1, NOTHING}
        };
        for (int[] row : valueMoreSum) {
            TwoTimes x = new TwoTimes();
            x.say(0, ALL, row[0]);
            due("raise", x.raise(0, ALL, row[1]), 1);
            due("at", x.at(2, 0, 50), row[2]);
            due("known", x.known(2, 0, 50), true);
        }
    }

    private static void raiseAsOfItsBegin() {
        TwoTimes x = new TwoTimes();
        x.say(0, days(0, 10), 1);
        x.say(0, days(10, 20), 2);
        x.say(0, days(20, 30), 3);
        // Read again during the call, 1 raised to 2 would join the piece behind it.
        due("raise by the step between pieces", x.raise(0, ALL, 1), 3);
        duePieces(x, 6, 0, 0, 10, 2, 10, 20, 3, 20, 30, 4);
        due("raise back", x.raise(0, ALL, -1), 3);
        duePieces(x, 9, 0, 0, 10, 1, 10, 20, 2, 20, 30, 3);
    }

    private static void raiseInOrderOfDays() {
        TwoTimes x = new TwoTimes();
        x.say(0, days(90, 100), 3);
        x.say(0, days(50, 60), 2);
        x.say(0, days(0, 10), 1);
        due("raise", x.raise(0, ALL, 10), 3);
        duePieces(x, 4, 0, 0, 10, 11, 50, 60, 2, 90, 100, 3);
        duePieces(x, 5, 0, 0, 10, 11, 50, 60, 12, 90, 100, 3);
        duePieces(x, 6, 0, 0, 10, 11, 50, 60, 12, 90, 100, 13);
    }

    private static void fullIfMoreThanForty(ToIntFunction<TwoTimes> call) {
        int[][] entriesPiecesAnswer = {
            {20, 20, 20}, {21, 20, FULL}, {21, 19, 19}, {38, 2, 2}, {39, 2, FULL}, {38, 3, FULL},
            {39, 1, 1}, {40, 1, FULL}, {40, 40, FULL}, {39, 0, 0}, {40, 0, 0}
        };
        for (int[] row : entriesPiecesAnswer) {
            TwoTimes x = withPieces(row[0], row[1]);
            due(row[1] + " pieces in a book of " + row[0], call.applyAsInt(x), row[2]);
            dueEntries(x, row[0] + (row[2] == FULL ? 0 : row[2]));
        }
        due("27 pieces out of 14 entries", call.applyAsInt(manyPieces(14)), FULL);
        due("25 pieces out of 13 entries", call.applyAsInt(manyPieces(13)), 25);
        due("79 pieces out of 40 entries", call.applyAsInt(manyPieces(40)), FULL);
    }

    /** One entry for all days, and then each entry cuts a piece in two: 2 * count - 1 pieces. */
    private static TwoTimes manyPieces(int count) {
        TwoTimes x = new TwoTimes();
        x.say(0, ALL, -1);
        for (int k = 1; k < count; k++) {
            x.say(0, days(2 * k - 1, 2 * k), k);
        }
        return x;
    }

    private static void raiseCountsOnlyItsDays() {
        TwoTimes x = withPieces(38, 10);
        due("three pieces", x.raise(0, days(0, 5), 1), FULL);
        due("no piece", x.raise(0, days(19, 100), 1), 0);
        due("one piece", x.raise(0, days(17, 100), 1), 1);
        due("one more", x.raise(0, days(0, 1), 1), 1);
        due("none is left", x.raise(0, days(0, 1), 1), FULL);
        due("no piece in a full book", x.raise(0, days(1, 2), 1), 0);
        dueEntries(x, 40);
    }

    private static void howManyWereMade(ToIntFunction<TwoTimes> call) {
        for (int pieces = 0; pieces <= 20; pieces++) {
            TwoTimes x = withPieces(pieces, pieces);
            due("of " + pieces + " pieces", call.applyAsInt(x), pieces);
            dueEntries(x, 2 * pieces);
        }
    }

    private static void copyAsOfItsBegin() {
        TwoTimes x = new TwoTimes();
        x.say(0, days(0, 10), 1);
        x.say(0, days(10, 20), 2);
        x.say(1, days(0, 20), 2);
        x.unsay(0, days(5, 6));
        due("copy", x.copy(0, 1), 3);
        duePieces(x, 7, 1, 0, 5, 1, 5, 6, 2, 6, 10, 1, 10, 20, 2);
        duePieces(x, 7, 0, 0, 5, 1, 6, 10, 1, 10, 20, 2);
    }

    private static void copyInOrderOfDays() {
        TwoTimes x = new TwoTimes();
        x.say(0, days(90, 100), 3);
        x.say(0, days(50, 60), 2);
        x.say(0, days(0, 10), 1);
        due("copy", x.copy(0, 5), 3);
        duePieces(x, 4, 5, 0, 10, 1);
        duePieces(x, 5, 5, 0, 10, 1, 50, 60, 2);
        duePieces(x, 6, 5, 0, 10, 1, 50, 60, 2, 90, 100, 3);
    }

    private static void copyOnlyPieces() {
        TwoTimes x = new TwoTimes();
        x.say(0, days(0, 1), NOTHING);
        x.say(0, days(50, 60), LEAST);
        x.say(0, days(99, 100), GREATEST);
        x.say(1, days(40, 70), 6);
        due("copy", x.copy(0, 1), 3);
        duePieces(x, 7, 1, 0, 1, NOTHING, 40, 50, 6, 50, 60, LEAST, 60, 70, 6, 99, 100, GREATEST);
        due("the copied one is as it was", x.changed(3, 7, 0), 0);
        due("another thing", x.pieces(7, 2), 0);
    }

    private static void copyOntoItself() {
        for (int thing = 0; thing < 6; thing++) {
            TwoTimes x = new TwoTimes();
            due("of nothing", x.copy(thing, thing), 0);
            x.say(thing, days(0, 10), 1);
            x.say(thing, days(10, 20), 2);
            x.say(thing, days(99, 100), 1);
            due("of three pieces", x.copy(thing, thing), 3);
            dueEntries(x, 6);
            duePieces(x, 6, thing, 0, 10, 1, 10, 20, 2, 99, 100, 1);
            due("changed", x.changed(3, 6, thing), 0);
            due("since", x.since(thing, 0), 1);
        }
    }

    private static void emptyAgain() {
        for (int count : new int[] {0, 1, 40}) {
            TwoTimes x = withEntries(count);
            x.say(0, ALL, 3);
            x.clear();
            dueEntries(x, 0);
            for (int thing = 0; thing < 6; thing++) {
                due("known", x.known(0, thing, 0), false);
                due("since", x.since(thing, 0), 0);
                due("copy", x.copy(thing, 0), 0);
            }
            due("the first number", x.unsay(1, ALL), 1);
            for (int thing = 0; thing < 6; thing++) {
                due("pieces as of 1", x.pieces(1, thing), 0);
            }
            for (int number = 2; number <= 40; number++) {
                due("say", x.say(0, ALL, number), number);
            }
            due("full again", x.say(0, ALL, 1), FULL);
        }
    }

    // ---- the calls that read

    private static void atNothing() {
        TwoTimes x = new TwoTimes();
        due("in an empty book", x.at(0, 0, 0), NOTHING);
        x.say(0, days(40, 50), 1);
        x.unsay(0, days(45, 46));
        due("ahead of 'from'", x.at(2, 0, 39), NOTHING);
        due("at 'from'", x.at(2, 0, 40), 1);
        due("at the last day", x.at(2, 0, 49), 1);
        due("at 'to'", x.at(2, 0, 50), NOTHING);
        due("unsaid", x.at(2, 0, 45), NOTHING);
        due("as of before it was unsaid", x.at(1, 0, 45), 1);
        due("as of before it was said", x.at(0, 0, 45), NOTHING);
        due("of another thing", x.at(2, 1, 45), NOTHING);
    }

    private static void valuesLikeAnswers() {
        for (int value : ANSWERS) {
            TwoTimes x = new TwoTimes();
            due("say", x.say(0, days(10, 20), value), 1);
            due("at", x.at(1, 0, 10), value);
            due("known", x.known(1, 0, 10), true);
            duePieces(x, 1, 0, 10, 20, value);
            due("sumAt", x.sumAt(1, 10), value);
            due("changed", x.changed(0, 1, 0), 10);
            due("since", x.since(0, 10), 1);
            due("copy", x.copy(0, 1), 1);
            due("at the copy", x.at(2, 1, 19), value);
            due("raise", x.raise(0, ALL, 100), 1);
            due("at the raised", x.at(3, 0, 10), value + 100);
            due("raise back", x.raise(0, ALL, -100), 1);
            due("at the raised back", x.at(4, 0, 10), value);
            x.unsay(0, days(15, 16));
            duePieces(x, 5, 0, 10, 15, value, 16, 20, value);
            due("changed to nothing", x.changed(4, 5, 0), 1);
            due("since unsaid", x.since(0, 15), 5);
        }
    }

    private static void knownOrNot() {
        TwoTimes x = new TwoTimes();
        due("in an empty book", x.known(0, 0, 0), false);
        x.say(0, days(40, 50), 0);
        x.unsay(0, days(45, 46));
        due("ahead of 'from'", x.known(2, 0, 39), false);
        due("at 'from'", x.known(2, 0, 40), true);
        due("at the last day", x.known(2, 0, 49), true);
        due("at 'to'", x.known(2, 0, 50), false);
        due("unsaid", x.known(2, 0, 45), false);
        due("as of before it was unsaid", x.known(1, 0, 45), true);
        due("as of before it was said", x.known(0, 0, 45), false);
        due("of another thing", x.known(2, 1, 45), false);
    }

    private static void knownIsFalseForBad() {
        for (int count : new int[] {6, 40}) {
            TwoTimes x = new TwoTimes();
            for (int k = 0; k < count; k++) {
                x.say(k % 6, ALL, 1);
            }
            due("all good", x.known(count, 5, 99), true);
            for (int n : new int[] {-1, count + 1, LEAST, GREATEST}) {
                due("bad n " + n, x.known(n, 0, 0), false);
            }
            for (int thing : BAD_THINGS) {
                due("bad thing " + thing, x.known(count, thing, 0), false);
            }
            for (int day : BAD_SINGLE_DAYS) {
                due("bad day " + day, x.known(count, 0, day), false);
            }
            due("all bad", x.known(-1, -1, -1), false);
        }
    }

    private static void fewestAndMostPieces() {
        TwoTimes x = new TwoTimes();
        due("none in an empty book", x.pieces(0, 0), 0);
        x.unsay(0, ALL);
        due("none where all is unsaid", x.pieces(1, 0), 0);
        x.say(0, days(0, 1), 1);
        due("the first day alone", x.pieces(2, 0), 1);
        x.say(0, days(99, 100), 1);
        due("the first day and the last", x.pieces(3, 0), 2);
        TwoTimes most = manyPieces(40);
        for (int n = 1; n <= 40; n++) {
            due("as of " + n, most.pieces(n, 0), 2 * n - 1);
        }
    }

    private static void pieceFromInOrder() {
        TwoTimes x = manyPieces(40);
        for (int i = 0; i < 79; i++) {
            due("piece " + i, x.pieceFrom(40, 0, i), i);
        }
        TwoTimes backwards = new TwoTimes();
        backwards.say(0, days(99, 100), 1);
        backwards.say(0, days(0, 1), 2);
        due("the first by day, not by entry", backwards.pieceFrom(2, 0, 0), 0);
        due("the second by day", backwards.pieceFrom(2, 0, 1), 99);
        due("as of 1", backwards.pieceFrom(1, 0, 0), 99);
    }

    private static void pieceToBehind() {
        TwoTimes x = manyPieces(40);
        for (int i = 0; i < 78; i++) {
            due("piece " + i, x.pieceTo(40, 0, i), i + 1);
        }
        due("the last piece ends behind day 99", x.pieceTo(40, 0, 78), 100);
        TwoTimes backwards = new TwoTimes();
        backwards.say(0, days(99, 100), 1);
        backwards.say(0, days(0, 1), 2);
        due("the first by day, not by entry", backwards.pieceTo(2, 0, 0), 1);
        due("the second by day", backwards.pieceTo(2, 0, 1), 100);
        due("as of 1", backwards.pieceTo(1, 0, 0), 100);
    }

    private static void noSuchPiece(Open call) {
        TwoTimes none = new TwoTimes();
        none.say(1, ALL, 1);
        none.unsay(0, ALL);
        TwoTimes two = new TwoTimes();
        two.say(0, days(0, 1), 1);
        two.say(0, days(99, 100), 1);
        for (int i : new int[] {-1, LEAST, 2, 3, 99, 100, GREATEST}) {
            due("of no piece, " + i, call.on(none).call(i), NOTHING);
            due("of two pieces, " + i, call.on(two).call(i), NOTHING);
        }
        for (int i : new int[] {0, 1}) {
            due("of no piece, " + i, call.on(none).call(i), NOTHING);
            due("of two pieces, " + i, call.on(two).call(i) >= 0, true);
        }
    }

    private static void sumWraps() {
        TwoTimes x = new TwoTimes();
        x.say(0, ALL, GREATEST);
        x.say(5, ALL, 1);
        due("one above the greatest", x.sumAt(2, 0), LEAST);
        x.say(1, ALL, -1);
        due("and back", x.sumAt(3, 0), GREATEST);
        TwoTimes six = new TwoTimes();
        for (int thing = 0; thing < 6; thing++) {
            six.say(thing, ALL, LEAST);
            due("so many times the least", six.sumAt(thing + 1, 99), thing % 2 == 0 ? LEAST : 0);
        }
    }

    private static void sumOfAllThings() {
        TwoTimes x = new TwoTimes();
        due("in an empty book", x.sumAt(0, 0), 0);
        for (int thing = 0; thing < 6; thing++) {
            x.say(thing, days(0, 10 * thing + 10), 1 << thing);
        }
        for (int thing = 0; thing < 6; thing++) {
            due("the last day at which the thing is known", x.sumAt(6, 10 * thing + 9), 64 - (1 << thing));
            due("as of the thing's entry", x.sumAt(thing + 1, 0), (2 << thing) - 1);
        }
        due("nothing is known", x.sumAt(6, 60), 0);
        x.unsay(0, ALL);
        x.unsay(5, ALL);
        due("the first thing and the last unsaid", x.sumAt(8, 0), 30);
    }

    private static void changedToAnotherValue() {
        TwoTimes x = new TwoTimes();
        x.say(0, ALL, 1);
        x.say(0, days(0, 1), 2);
        x.say(0, days(98, 100), 2);
        x.say(0, days(98, 100), 2);
        due("one day", x.changed(1, 2, 0), 1);
        due("one day, asked backwards", x.changed(2, 1, 0), 1);
        due("three days over two entries", x.changed(1, 3, 0), 3);
        due("the same value again", x.changed(3, 4, 0), 0);
        due("with itself", x.changed(4, 4, 0), 0);
        x.say(0, ALL, 1);
        due("there and back", x.changed(1, 5, 0), 0);
        due("another thing", x.changed(0, 5, 1), 0);
    }

    private static void changedToNothing() {
        TwoTimes x = new TwoTimes();
        x.say(0, days(0, 50), NOTHING);
        x.say(0, days(50, 99), 0);
        x.unsay(0, days(49, 100));
        due("as of 2 than as of 3", x.changed(2, 3, 0), 50);
        x.unsay(0, days(0, 1));
        due("as of 3 than as of 4", x.changed(3, 4, 0), 1);
        x.unsay(0, days(0, 1));
        due("unsaid once more", x.changed(4, 5, 0), 0);
        due("over all", x.changed(2, 5, 0), 51);
    }

    private static void changedFromNothing() {
        TwoTimes x = new TwoTimes();
        x.say(0, days(0, 50), NOTHING);
        x.say(0, days(50, 99), 0);
        due("a value like NOTHING", x.changed(0, 1, 0), 50);
        due("a value of zero", x.changed(1, 2, 0), 49);
        due("asked backwards", x.changed(2, 0, 0), 99);
        x.unsay(0, ALL);
        x.say(0, days(99, 100), 1);
        due("as of 3 than as of 4", x.changed(3, 4, 0), 1);
        due("nothing at both", x.changed(0, 3, 0), 0);
    }

    private static void bothEntryNumbers() {
        for (int count : new int[] {0, 3, 40}) {
            TwoTimes x = withEntries(count);
            for (int bad : new int[] {-1, count + 1, LEAST, GREATEST}) {
                for (int good : new int[] {0, count}) {
                    due("bad n", x.changed(bad, good, 5), BAD_ENTRY);
                    due("bad m", x.changed(good, bad, 5), BAD_ENTRY);
                    due("bad n and thing", x.changed(bad, good, 6), BAD_ENTRY);
                    due("bad m and thing", x.changed(good, bad, 6), BAD_ENTRY);
                }
                due("both bad", x.changed(bad, bad, 5), BAD_ENTRY);
            }
        }
    }

    private static void leastSince() {
        TwoTimes x = new TwoTimes();
        due("in an empty book", x.since(0, 0), 0);
        x.unsay(0, ALL);
        due("nothing as of 0 and ever since", x.since(0, 0), 0);
        x.say(0, days(40, 50), 1);
        due("ahead of 'from'", x.since(0, 39), 0);
        due("at 'from'", x.since(0, 40), 2);
        due("at the last day", x.since(0, 49), 2);
        due("at 'to'", x.since(0, 50), 0);
        x.say(0, ALL, 1);
        x.say(1, ALL, 1);
        due("the same value said again", x.since(0, 40), 2);
        due("the first time there", x.since(0, 39), 3);
        due("of another thing", x.since(1, 0), 4);
        TwoTimes full = withEntries(40);
        due("the fortieth", full.since(5, 0), 40);
        due("never spoken of", full.since(5, 1), 0);
    }

    private static void sameBetween() {
        TwoTimes x = new TwoTimes();
        x.say(0, ALL, 1);
        x.say(0, ALL, 2);
        x.say(0, ALL, 1);
        due("another value between", x.since(0, 0), 3);
        x.unsay(0, days(0, 1));
        x.say(0, ALL, 1);
        due("nothing between", x.since(0, 0), 5);
        due("beside it", x.since(0, 1), 3);
        x.unsay(0, ALL);
        due("nothing, with values between", x.since(0, 0), 6);
        x.unsay(0, ALL);
        due("nothing once more", x.since(0, 0), 6);
        x.say(0, ALL, NOTHING);
        x.unsay(0, ALL);
        due("a value like NOTHING between", x.since(0, 0), 9);
    }

    private static void sinceBadDays() {
        for (int day : BAD_SINGLE_DAYS) {
            due("in an empty book, day " + day, new TwoTimes().since(0, day), BAD_DAYS);
            due("in a full book, day " + day, withEntries(40).since(5, day), BAD_DAYS);
        }
        due("day 0", withEntries(40).since(5, 0), 40);
        due("day 99", withEntries(40).since(5, 99), 0);
    }

    private static void changedLimits() {
        due("0 and 0 in an empty book", new TwoTimes().changed(0, 0, 0), 0);
        due("1 and 0 in an empty book", new TwoTimes().changed(1, 0, 0), BAD_ENTRY);
        due("0 and 1 in an empty book", new TwoTimes().changed(0, 1, 0), BAD_ENTRY);
        for (int count : new int[] {1, 39, 40}) {
            TwoTimes x = withEntries(count);
            due("0 and 0", x.changed(0, 0, 5), 0);
            due("0 and the last", x.changed(0, count, 5), 1);
            due("the last and 0", x.changed(count, 0, 5), 1);
            due("the last and the last", x.changed(count, count, 5), 0);
            due("behind the last and 0", x.changed(count + 1, 0, 5), BAD_ENTRY);
            due("0 and behind the last", x.changed(0, count + 1, 5), BAD_ENTRY);
            for (int n = 1; n < count; n++) {
                due(n + " and the last", x.changed(n, count, 5), 1);
            }
        }
    }
}
