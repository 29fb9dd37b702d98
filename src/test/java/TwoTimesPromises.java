/** Each promise of the document by itself: ordinary inputs, the named edges, wrong inputs. */
public final class TwoTimesPromises {
    private static final int[] NOT_THINGS = {-1, 6, Integer.MIN_VALUE, Integer.MAX_VALUE};
    private static final int[] NOT_A_DAY = {-1, 100, Integer.MIN_VALUE, Integer.MAX_VALUE};
    private static final int ALL = days(0, 100);
    private static final int[] NOT_DAYS = {
        0, days(5, 5), days(6, 5), days(99, 0), days(0, 101), days(99, 127), days(100, 100),
        days(100, 101), days(127, 127), -1, Integer.MIN_VALUE
    };

    private static int wrong = 0;
    private static int checked = 0;

    public static void main(String[] args) {
        newObject();
        say();
        sayRefuses();
        packedDays();
        unsay();
        unsayRefuses();
        raise();
        raiseReadsPiecesAsOfItsBegin();
        raiseRefuses();
        copy();
        copyOntoItself();
        copyRefuses();
        clear();
        at();
        known();
        pieces();
        pieceFromAndTo();
        sumAt();
        changed();
        since();
        orderOfTests();
        limits();
        readingChangesNothing();
        System.out.println(checked + " answers looked at, " + wrong + " not as due");
        if (wrong != 0) {
            System.exit(1);
        }
    }

    private static int days(int from, int to) {
        return from + 128 * to;
    }

    private static void due(String what, long got, long want) {
        checked++;
        if (got != want) {
            wrong++;
            System.out.println(what + " answered " + got + ", due is " + want);
        }
    }

    private static void due(String what, boolean got, boolean want) {
        due(what, got ? 1 : 0, want ? 1 : 0);
    }

    /** As of now (entry number n) the thing has just these pieces: from, to, value, from, to, value ... */
    private static void duePieces(String what, TwoTimes x, int n, int thing, int... due) {
        int count = due.length / 3;
        due(what + ": pieces", x.pieces(n, thing), count);
        for (int i = 0; i < count; i++) {
            due(what + ": pieceFrom " + i, x.pieceFrom(n, thing, i), due[3 * i]);
            due(what + ": pieceTo " + i, x.pieceTo(n, thing, i), due[3 * i + 1]);
            due(what + ": at the piece's first day", x.at(n, thing, due[3 * i]), due[3 * i + 2]);
            due(what + ": at the piece's last day", x.at(n, thing, due[3 * i + 1] - 1), due[3 * i + 2]);
        }
        due(what + ": pieceFrom behind the last", x.pieceFrom(n, thing, count), TwoTimes.NOTHING);
        due(what + ": pieceTo behind the last", x.pieceTo(n, thing, count), TwoTimes.NOTHING);
    }

    private static TwoTimes withEntries(int count) {
        TwoTimes x = new TwoTimes();
        for (int k = 1; k <= count; k++) {
            due("say number " + k, x.say(5, days(0, 1), k), k);
        }
        return x;
    }

    private static void newObject() {
        TwoTimes x = new TwoTimes();
        due("1: no entry 1", x.pieces(1, 0), TwoTimes.BAD_ENTRY);
        for (int thing = 0; thing < 6; thing++) {
            due("1: pieces of " + thing, x.pieces(0, thing), 0);
            due("1: known of " + thing, x.known(0, thing, 0), false);
            due("1: since of " + thing, x.since(thing, 99), 0);
        }
        due("1: sumAt", x.sumAt(0, 0), 0);
        due("1: objects are apart", new TwoTimes().say(0, ALL, 1), 1);
        due("1: objects are apart", x.say(0, ALL, 1), 1);
    }

    private static void say() {
        TwoTimes x = new TwoTimes();
        due("2: first", x.say(0, days(10, 20), 7), 1);
        due("2: second", x.say(5, days(99, 100), -8), 2);
        due("2: over the first", x.say(0, days(15, 30), 9), 3);
        due("2: whole range", x.say(3, ALL, Integer.MIN_VALUE), 4);
        due("2: one day", x.say(4, days(0, 1), Integer.MAX_VALUE), 5);
        duePieces("2: thing 0", x, 5, 0, 10, 15, 7, 15, 30, 9);
        duePieces("2: thing 0 before", x, 2, 0, 10, 20, 7);
        duePieces("2: thing 1", x, 5, 1);
        duePieces("2: thing 3", x, 5, 3, 0, 100, Integer.MIN_VALUE);
        duePieces("2: thing 4", x, 5, 4, 0, 1, Integer.MAX_VALUE);
        duePieces("2: thing 5", x, 5, 5, 99, 100, -8);
    }

    private static void sayRefuses() {
        TwoTimes x = new TwoTimes();
        for (int thing : NOT_THINGS) {
            due("2: bad thing " + thing, x.say(thing, ALL, 1), TwoTimes.BAD_THING);
            due("2: thing ahead of days", x.say(thing, 0, 1), TwoTimes.BAD_THING);
        }
        for (int bad : NOT_DAYS) {
            due("2: bad days " + bad, x.say(0, bad, 1), TwoTimes.BAD_DAYS);
        }
        due("2: refused makes no entry", x.pieces(1, 0), TwoTimes.BAD_ENTRY);
        TwoTimes full = withEntries(40);
        due("2: full", full.say(0, ALL, 1), TwoTimes.FULL);
        due("2: thing ahead of full", full.say(6, ALL, 1), TwoTimes.BAD_THING);
        due("2: days ahead of full", full.say(0, 0, 1), TwoTimes.BAD_DAYS);
        due("2: refused makes no entry", full.pieces(41, 0), TwoTimes.BAD_ENTRY);
        due("2: refused changes nothing", full.pieces(40, 0), 0);
    }

    private static void packedDays() {
        int[] otherBits = {1 << 14, 1 << 20, 1 << 30, 1 << 31, -1 << 14};
        for (int bits : otherBits) {
            TwoTimes x = new TwoTimes();
            due("days with other bits: say", x.say(1, days(20, 100) | bits, 3), 1);
            due("days with other bits: unsay", x.unsay(1, days(40, 50) | bits), 2);
            due("days with other bits: raise", x.raise(1, days(45, 60) | bits, 4), 1);
            duePieces("days with other bits", x, 3, 1, 20, 40, 3, 50, 60, 7, 60, 100, 3);
            due("bad days with other bits", x.say(1, days(5, 5) | bits, 3), TwoTimes.BAD_DAYS);
        }
    }

    private static void unsay() {
        TwoTimes x = new TwoTimes();
        due("3: of nothing", x.unsay(2, ALL), 1);
        x.say(2, days(10, 20), 4);
        x.say(3, days(10, 20), 4);
        due("3: the middle", x.unsay(2, days(13, 15)), 4);
        duePieces("3: two are left", x, 4, 2, 10, 13, 4, 15, 20, 4);
        duePieces("3: as of before", x, 3, 2, 10, 20, 4);
        duePieces("3: another thing", x, 4, 3, 10, 20, 4);
        due("3: not known", x.known(4, 2, 13), false);
        due("3: nothing at", x.at(4, 2, 14), TwoTimes.NOTHING);
        due("3: all", x.unsay(2, ALL), 5);
        duePieces("3: none is left", x, 5, 2);
        due("3: said again", x.say(2, days(14, 15), 6), 6);
        duePieces("3: said again", x, 6, 2, 14, 15, 6);
    }

    private static void unsayRefuses() {
        TwoTimes x = new TwoTimes();
        for (int thing : NOT_THINGS) {
            due("3: bad thing " + thing, x.unsay(thing, ALL), TwoTimes.BAD_THING);
            due("3: thing ahead of days", x.unsay(thing, 0), TwoTimes.BAD_THING);
        }
        for (int bad : NOT_DAYS) {
            due("3: bad days " + bad, x.unsay(0, bad), TwoTimes.BAD_DAYS);
        }
        due("3: refused makes no entry", x.pieces(1, 0), TwoTimes.BAD_ENTRY);
        TwoTimes full = withEntries(40);
        due("3: full", full.unsay(5, ALL), TwoTimes.FULL);
        due("3: thing ahead of full", full.unsay(-1, ALL), TwoTimes.BAD_THING);
        due("3: days ahead of full", full.unsay(5, 0), TwoTimes.BAD_DAYS);
        due("3: refused changes nothing", full.at(40, 5, 0), 40);
    }

    private static void raise() {
        TwoTimes x = new TwoTimes();
        due("4: nothing is known", x.raise(0, ALL, 5), 0);
        due("4: no entry", x.pieces(1, 0), TwoTimes.BAD_ENTRY);
        x.say(0, days(0, 10), 1);
        x.say(0, days(20, 30), 2);
        x.say(0, days(30, 40), 2);
        x.say(0, days(50, 60), 3);
        due("4: cut at both ends", x.raise(0, days(5, 55), 10), 3);
        duePieces("4: after", x, 7, 0, 0, 5, 1, 5, 10, 11, 20, 40, 12, 50, 55, 13, 55, 60, 3);
        duePieces("4: first entry", x, 5, 0, 0, 5, 1, 5, 10, 11, 20, 40, 2, 50, 60, 3);
        duePieces("4: second entry", x, 6, 0, 0, 5, 1, 5, 10, 11, 20, 40, 12, 50, 60, 3);
        due("4: inside one piece", x.raise(0, days(25, 26), -12), 1);
        due("4: to zero", x.at(8, 0, 25), 0);
        due("4: beside all pieces", x.raise(0, days(10, 20), 1), 0);
        due("4: begins where the last piece ends", x.raise(0, days(60, 100), 1), 0);
        due("4: ends where a piece begins", x.raise(0, days(45, 50), 1), 0);
        due("4: by zero is an entry too", x.raise(0, days(0, 5), 0), 1);
        due("4: by zero changes nothing", x.changed(8, 9, 0), 0);
        due("4: another thing", x.pieces(9, 1), 0);
    }

    private static void raiseReadsPiecesAsOfItsBegin() {
        TwoTimes x = new TwoTimes();
        x.say(1, days(0, 10), 1);
        x.say(1, days(10, 20), 2);
        x.say(1, days(20, 30), 3);
        due("4: steps", x.raise(1, ALL, 1), 3);
        duePieces("4: steps", x, 6, 1, 0, 10, 2, 10, 20, 3, 20, 30, 4);
        duePieces("4: steps, first entry", x, 4, 1, 0, 20, 2, 20, 30, 3);
        due("4: ends where another piece begins", x.raise(1, days(5, 10), 1), 1);
        due("4: no entry for the piece behind", x.pieces(8, 1), TwoTimes.BAD_ENTRY);
        duePieces("4: the piece behind", x, 7, 1, 0, 5, 2, 5, 20, 3, 20, 30, 4);
        TwoTimes wrap = new TwoTimes();
        wrap.say(0, ALL, Integer.MAX_VALUE);
        due("4: wraps", wrap.raise(0, ALL, 1), 1);
        due("4: wraps", wrap.at(2, 0, 50), Integer.MIN_VALUE);
        due("4: wraps back", wrap.raise(0, ALL, -1), 1);
        due("4: wraps back", wrap.at(3, 0, 50), Integer.MAX_VALUE);
        TwoTimes codes = new TwoTimes();
        codes.say(0, days(3, 5), TwoTimes.NOTHING);
        due("4: a value like NOTHING", codes.raise(0, ALL, 1), 1);
        duePieces("4: a value like NOTHING", codes, 2, 0, 3, 5, -4);
    }

    private static void raiseRefuses() {
        TwoTimes x = withEntries(37);
        x.say(0, days(0, 1), 1);
        x.say(0, days(2, 3), 1);
        for (int thing : NOT_THINGS) {
            due("4: bad thing " + thing, x.raise(thing, ALL, 1), TwoTimes.BAD_THING);
            due("4: thing ahead of days", x.raise(thing, 0, 1), TwoTimes.BAD_THING);
        }
        for (int bad : NOT_DAYS) {
            due("4: bad days " + bad, x.raise(0, bad, 1), TwoTimes.BAD_DAYS);
        }
        due("4: one too many", x.raise(0, ALL, 1), TwoTimes.FULL);
        due("4: refused makes no entry", x.pieces(40, 0), TwoTimes.BAD_ENTRY);
        duePieces("4: refused changes nothing", x, 39, 0, 0, 1, 1, 2, 3, 1);
        due("4: only those in the days count", x.raise(0, days(1, 100), 1), 1);
        due("4: full", x.raise(0, days(0, 1), 1), TwoTimes.FULL);
        due("4: none to make in a full book", x.raise(0, days(3, 100), 1), 0);
        due("4: thing ahead of full", x.raise(6, ALL, 1), TwoTimes.BAD_THING);
        due("4: days ahead of full", x.raise(0, 0, 1), TwoTimes.BAD_DAYS);
    }

    private static void copy() {
        TwoTimes x = new TwoTimes();
        due("5: nothing to copy", x.copy(0, 1), 0);
        x.say(0, days(0, 10), 1);
        x.say(0, days(10, 20), 1);
        x.say(0, days(20, 30), 2);
        x.say(0, days(99, 100), TwoTimes.NOTHING);
        x.say(1, days(5, 50), 8);
        due("5: three pieces", x.copy(0, 1), 3);
        duePieces("5: gaps stay as they were", x, 8, 1, 0, 20, 1, 20, 30, 2, 30, 50, 8, 99, 100, TwoTimes.NOTHING);
        duePieces("5: first entry", x, 6, 1, 0, 20, 1, 20, 50, 8);
        duePieces("5: the source", x, 8, 0, 0, 20, 1, 20, 30, 2, 99, 100, TwoTimes.NOTHING);
        due("5: only the target", x.pieces(8, 2), 0);
        x.unsay(0, ALL);
        due("5: nothing any more", x.copy(0, 1), 0);
        due("5: as of now", x.copy(1, 5), 4);
        due("5: as of now", x.changed(9, 13, 5), 51);
    }

    private static void copyOntoItself() {
        TwoTimes x = new TwoTimes();
        x.say(4, days(0, 10), 1);
        x.say(4, days(10, 20), 2);
        x.say(4, days(30, 40), 1);
        due("5: onto itself", x.copy(4, 4), 3);
        due("5: onto itself", x.changed(3, 6, 4), 0);
        due("5: the entries stand", x.pieces(6, 4), 3);
        due("5: no more", x.pieces(7, 4), TwoTimes.BAD_ENTRY);
    }

    private static void copyRefuses() {
        TwoTimes x = withEntries(37);
        x.say(0, days(0, 1), 1);
        x.say(0, days(2, 3), 2);
        for (int thing : NOT_THINGS) {
            due("5: bad from " + thing, x.copy(thing, 0), TwoTimes.BAD_THING);
            due("5: bad to " + thing, x.copy(0, thing), TwoTimes.BAD_THING);
            due("5: bad to, nothing to copy", x.copy(1, thing), TwoTimes.BAD_THING);
        }
        due("5: one too many", x.copy(0, 1), TwoTimes.FULL);
        due("5: refused makes no entry", x.pieces(40, 1), TwoTimes.BAD_ENTRY);
        due("5: refused changes nothing", x.pieces(39, 1), 0);
        due("5: the fortieth", x.copy(5, 1), 1);
        due("5: full", x.copy(5, 1), TwoTimes.FULL);
        due("5: none to make in a full book", x.copy(3, 1), 0);
        due("5: thing ahead of full", x.copy(5, 6), TwoTimes.BAD_THING);
    }

    private static void clear() {
        TwoTimes x = withEntries(40);
        x.clear();
        due("6: no entries", x.pieces(1, 5), TwoTimes.BAD_ENTRY);
        due("6: nothing known", x.known(0, 5, 0), false);
        due("6: since", x.since(5, 0), 0);
        due("6: from 1 again", x.say(1, days(0, 2), 3), 1);
        duePieces("6: the old is gone", x, 1, 5);
        duePieces("6: the new stands", x, 1, 1, 0, 2, 3);
        for (int k = 2; k <= 40; k++) {
            due("6: forty again", x.unsay(0, ALL), k);
        }
        due("6: and no more", x.unsay(0, ALL), TwoTimes.FULL);
        TwoTimes empty = new TwoTimes();
        empty.clear();
        due("6: of an empty book", empty.say(0, ALL, 1), 1);
    }

    private static void at() {
        TwoTimes x = new TwoTimes();
        x.say(0, days(10, 20), 5);
        x.say(0, days(15, 25), TwoTimes.BAD_ENTRY);
        x.unsay(0, days(18, 19));
        due("7: as of 0", x.at(0, 0, 12), TwoTimes.NOTHING);
        due("7: ahead of from", x.at(3, 0, 9), TwoTimes.NOTHING);
        due("7: at from", x.at(3, 0, 10), 5);
        due("7: as of 1", x.at(1, 0, 15), 5);
        due("7: a value like an answer", x.at(2, 0, 15), -4);
        due("7: unsaid", x.at(3, 0, 18), TwoTimes.NOTHING);
        due("7: not yet unsaid", x.at(2, 0, 18), -4);
        due("7: the last day", x.at(3, 0, 24), -4);
        due("7: at to", x.at(3, 0, 25), TwoTimes.NOTHING);
        due("7: first day of all", x.at(3, 0, 0), TwoTimes.NOTHING);
        due("7: last day of all", x.at(3, 0, 99), TwoTimes.NOTHING);
        due("7: n too great", x.at(4, 0, 12), TwoTimes.BAD_ENTRY);
        due("7: n too small", x.at(-1, 0, 12), TwoTimes.BAD_ENTRY);
        for (int thing : NOT_THINGS) {
            due("7: bad thing " + thing, x.at(3, thing, 12), TwoTimes.BAD_THING);
        }
        for (int day : NOT_A_DAY) {
            due("7: bad day " + day, x.at(3, 0, day), TwoTimes.BAD_DAYS);
        }
    }

    private static void known() {
        TwoTimes x = new TwoTimes();
        x.say(0, ALL, TwoTimes.NOTHING);
        x.unsay(0, days(50, 60));
        x.say(5, days(99, 100), 0);
        due("8: a value like NOTHING", x.known(1, 0, 0), true);
        due("8: last day", x.known(3, 0, 99), true);
        due("8: zero", x.known(3, 5, 99), true);
        due("8: unsaid", x.known(2, 0, 50), false);
        due("8: not yet unsaid", x.known(1, 0, 50), true);
        due("8: as of 0", x.known(0, 0, 0), false);
        due("8: another thing", x.known(3, 1, 0), false);
        due("8: n too great", x.known(4, 0, 0), false);
        due("8: n too small", x.known(-1, 0, 0), false);
        due("8: n far too great", x.known(Integer.MAX_VALUE, 0, 0), false);
        for (int thing : NOT_THINGS) {
            due("8: bad thing " + thing, x.known(3, thing, 0), false);
        }
        for (int day : NOT_A_DAY) {
            due("8: bad day " + day, x.known(3, 0, day), false);
        }
    }

    private static void pieces() {
        TwoTimes x = new TwoTimes();
        x.say(0, days(10, 20), 1);
        x.say(0, days(20, 30), 1);
        due("9: the same value from two entries", x.pieces(2, 0), 1);
        x.say(0, days(30, 40), 2);
        due("9: another value beside it", x.pieces(3, 0), 2);
        x.say(0, days(14, 16), 3);
        due("9: split in three", x.pieces(4, 0), 4);
        x.unsay(0, days(12, 13));
        due("9: with a gap", x.pieces(5, 0), 5);
        due("9: as of 1", x.pieces(1, 0), 1);
        due("9: as of 0", x.pieces(0, 0), 0);
        due("9: another thing", x.pieces(5, 1), 0);
        x.say(2, days(0, 50), 1);
        x.say(2, days(51, 100), 1);
        due("9: a gap of one day", x.pieces(7, 2), 2);
        x.say(2, days(50, 51), TwoTimes.NOTHING);
        due("9: a value like NOTHING in the gap", x.pieces(8, 2), 3);
        x.say(2, days(50, 51), 1);
        due("9: the gap closed", x.pieces(9, 2), 1);
        due("9: n too great", x.pieces(10, 0), TwoTimes.BAD_ENTRY);
        due("9: n too small", x.pieces(-1, 0), TwoTimes.BAD_ENTRY);
        for (int thing : NOT_THINGS) {
            due("9: bad thing " + thing, x.pieces(9, thing), TwoTimes.BAD_THING);
        }
    }

    private static void pieceFromAndTo() {
        TwoTimes x = new TwoTimes();
        x.say(3, days(90, 100), 1);
        x.say(3, days(0, 5), 2);
        x.say(3, days(5, 9), 3);
        x.say(3, days(9, 12), 3);
        duePieces("10, 11: in the order of days", x, 4, 3, 0, 5, 2, 5, 12, 3, 90, 100, 1);
        duePieces("10, 11: as of 3", x, 3, 3, 0, 5, 2, 5, 9, 3, 90, 100, 1);
        duePieces("10, 11: as of 1", x, 1, 3, 90, 100, 1);
        duePieces("10, 11: as of 0", x, 0, 3);
        for (int i : new int[] {-1, Integer.MIN_VALUE, 3, 100, Integer.MAX_VALUE}) {
            due("10: no piece " + i, x.pieceFrom(4, 3, i), TwoTimes.NOTHING);
            due("11: no piece " + i, x.pieceTo(4, 3, i), TwoTimes.NOTHING);
        }
        for (int n : new int[] {-1, 5, Integer.MIN_VALUE, Integer.MAX_VALUE}) {
            due("10: bad n " + n, x.pieceFrom(n, 3, 0), TwoTimes.BAD_ENTRY);
            due("11: bad n " + n, x.pieceTo(n, 3, 0), TwoTimes.BAD_ENTRY);
        }
        for (int thing : NOT_THINGS) {
            due("10: bad thing " + thing, x.pieceFrom(4, thing, 0), TwoTimes.BAD_THING);
            due("11: bad thing " + thing, x.pieceTo(4, thing, 0), TwoTimes.BAD_THING);
            due("10: thing ahead of i", x.pieceFrom(4, thing, -1), TwoTimes.BAD_THING);
            due("11: thing ahead of i", x.pieceTo(4, thing, -1), TwoTimes.BAD_THING);
        }
    }

    private static void sumAt() {
        TwoTimes x = new TwoTimes();
        for (int thing = 0; thing < 6; thing++) {
            x.say(thing, days(10 * thing, 100), 1 << thing);
        }
        due("12: one", x.sumAt(6, 0), 1);
        due("12: three", x.sumAt(6, 29), 7);
        due("12: all six", x.sumAt(6, 99), 63);
        due("12: as of 2", x.sumAt(2, 99), 3);
        due("12: as of 0", x.sumAt(0, 99), 0);
        x.unsay(1, ALL);
        due("12: one unsaid", x.sumAt(7, 99), 61);
        x.say(1, ALL, Integer.MAX_VALUE);
        due("12: wraps", x.sumAt(8, 99), Integer.MIN_VALUE + 60);
        due("12: n too great", x.sumAt(9, 0), TwoTimes.BAD_ENTRY);
        due("12: n too small", x.sumAt(-1, 0), TwoTimes.BAD_ENTRY);
        for (int day : NOT_A_DAY) {
            due("12: bad day " + day, x.sumAt(8, day), TwoTimes.BAD_DAYS);
            due("12: n ahead of day", x.sumAt(9, day), TwoTimes.BAD_ENTRY);
        }
    }

    private static void changed() {
        TwoTimes x = new TwoTimes();
        x.say(0, days(10, 20), TwoTimes.NOTHING);
        x.say(0, days(15, 30), 2);
        x.unsay(0, days(0, 12));
        x.say(0, days(20, 25), 2);
        x.say(1, ALL, 2);
        due("13: nothing to a value like NOTHING", x.changed(0, 1, 0), 10);
        due("13: a value like NOTHING to nothing", x.changed(1, 0, 0), 10);
        due("13: another value, and new days", x.changed(1, 2, 0), 15);
        due("13: a value to nothing", x.changed(2, 3, 0), 2);
        due("13: the same value again", x.changed(3, 4, 0), 0);
        due("13: another thing's entry", x.changed(4, 5, 0), 0);
        due("13: every day", x.changed(4, 5, 1), 100);
        due("13: with itself", x.changed(2, 2, 0), 0);
        due("13: over many", x.changed(5, 0, 0), 18);
        x.unsay(0, ALL);
        due("13: there and back", x.changed(6, 0, 0), 0);
        for (int bad : new int[] {-1, 7, Integer.MIN_VALUE, Integer.MAX_VALUE}) {
            due("13: bad n " + bad, x.changed(bad, 0, 0), TwoTimes.BAD_ENTRY);
            due("13: bad m " + bad, x.changed(0, bad, 0), TwoTimes.BAD_ENTRY);
            due("13: n ahead of thing", x.changed(bad, 0, 6), TwoTimes.BAD_ENTRY);
            due("13: m ahead of thing", x.changed(0, bad, 6), TwoTimes.BAD_ENTRY);
        }
        for (int thing : NOT_THINGS) {
            due("13: bad thing " + thing, x.changed(6, 0, thing), TwoTimes.BAD_THING);
        }
    }

    private static void since() {
        TwoTimes x = new TwoTimes();
        x.say(0, days(0, 50), 1);
        due("14: said", x.since(0, 0), 1);
        due("14: never spoken of", x.since(0, 50), 0);
        x.say(0, days(0, 10), 1);
        x.say(1, ALL, 9);
        due("14: the same again", x.since(0, 5), 1);
        x.say(0, days(0, 10), 2);
        x.say(0, days(0, 10), 1);
        due("14: the same, but not between", x.since(0, 5), 5);
        due("14: beside it", x.since(0, 10), 1);
        x.unsay(0, days(40, 100));
        due("14: unsaid", x.since(0, 49), 6);
        due("14: unsaid where nothing was", x.since(0, 99), 0);
        x.say(0, days(99, 100), TwoTimes.NOTHING);
        due("14: a value like NOTHING", x.since(0, 99), 7);
        x.unsay(0, days(99, 100));
        due("14: nothing again", x.since(0, 99), 8);
        x.raise(1, ALL, 0);
        due("14: raised by zero", x.since(1, 0), 3);
        for (int thing : NOT_THINGS) {
            due("14: bad thing " + thing, x.since(thing, 0), TwoTimes.BAD_THING);
            due("14: thing ahead of day", x.since(thing, 100), TwoTimes.BAD_THING);
        }
        for (int day : NOT_A_DAY) {
            due("14: bad day " + day, x.since(0, day), TwoTimes.BAD_DAYS);
        }
    }

    private static void orderOfTests() {
        TwoTimes x = new TwoTimes();
        due("15: at, n first", x.at(1, 6, 100), TwoTimes.BAD_ENTRY);
        due("15: at, then thing", x.at(0, 6, 100), TwoTimes.BAD_THING);
        due("15: at, then day", x.at(0, 5, 100), TwoTimes.BAD_DAYS);
        due("15: pieces, n first", x.pieces(1, 6), TwoTimes.BAD_ENTRY);
        due("15: pieceFrom, n first", x.pieceFrom(1, 6, 0), TwoTimes.BAD_ENTRY);
        due("15: pieceTo, n first", x.pieceTo(1, 6, 0), TwoTimes.BAD_ENTRY);
    }

    private static void limits() {
        TwoTimes x = new TwoTimes();
        due("15: changed, both 0 in an empty book", x.changed(0, 0, 0), 0);
        due("15: changed, 1 in an empty book", x.changed(0, 1, 0), TwoTimes.BAD_ENTRY);
        TwoTimes full = withEntries(40);
        due("15: changed, 0 and the last", full.changed(0, 40, 5), 1);
        due("15: changed, the last and 0", full.changed(40, 0, 5), 1);
        due("15: changed, behind the last", full.changed(41, 0, 5), TwoTimes.BAD_ENTRY);
        due("15: changed, behind the last", full.changed(0, 41, 5), TwoTimes.BAD_ENTRY);
        for (int n = 1; n <= 40; n++) {
            due("15: at as of " + n, full.at(n, 5, 0), n);
        }
        TwoTimes many = new TwoTimes();
        for (int k = 0; k < 20; k++) {
            many.say(0, days(5 * k, 5 * k + 2), k);
        }
        due("15: exactly forty by copy", many.copy(0, 1), 20);
        due("15: the last piece copied", many.at(40, 1, 96), 19);
        due("15: no more", many.copy(0, 1), TwoTimes.FULL);
    }

    private static void readingChangesNothing() {
        TwoTimes x = new TwoTimes();
        x.say(0, days(0, 10), 1);
        for (int round = 0; round < 3; round++) {
            due("reading: at", x.at(1, 0, 5), 1);
            due("reading: known", x.known(1, 0, 5), true);
            due("reading: sumAt", x.sumAt(1, 5), 1);
            due("reading: changed", x.changed(0, 1, 0), 10);
            due("reading: since", x.since(0, 5), 1);
            duePieces("reading", x, 1, 0, 0, 10, 1);
        }
        due("reading: the next entry", x.say(0, ALL, 1), 2);
    }
}
