import java.util.ArrayList;
import java.util.List;
import java.util.Random;

/**
 * Long runs of mixed calls, the same ones each time, beside a model that works the other way round:
 * it keeps, for every entry number, the whole table of what is known.
 */
public final class TwoTimesAgainstModel {
    private static final int RUNS = 2000;
    private static final int CALLS_OF_ONE_OBJECT = 512;
    private static final int MOST_SHOWN = 20;

    private static final class Piece {
        final int from;
        final int to;
        final int value;

        Piece(int from, int to, int value) {
            this.from = from;
            this.to = to;
            this.value = value;
        }
    }

    /** tables.get(n)[thing][day] is what is known as of n, null where nothing is. */
    private static final class Model {
        final List<Integer[][]> tables = new ArrayList<>();

        Model() {
            clear();
        }

        void clear() {
            tables.clear();
            tables.add(new Integer[6][100]);
        }

        int last() {
            return tables.size() - 1;
        }

        void enter(int thing, int from, int to, Integer value) {
            Integer[][] table = new Integer[6][];
            for (int t = 0; t < 6; t++) {
                table[t] = tables.get(last())[t].clone();
            }
            for (int day = from; day < to; day++) {
                table[thing][day] = value;
            }
            tables.add(table);
        }

        /** 0 if thing and packed days are good, else the answer that is due. */
        static int refusalOfDays(int thing, int days) {
            if (thing < 0 || thing > 5) {
                return TwoTimes.BAD_THING;
            }
            int from = days & 127;
            int to = (days >> 7) & 127;
            return from >= to || to > 100 ? TwoTimes.BAD_DAYS : 0;
        }

        int enterOne(int thing, int days, Integer value) {
            int refusal = refusalOfDays(thing, days);
            if (refusal != 0) {
                return refusal;
            }
            int from = days & 127;
            int to = (days >> 7) & 127;
            if (last() == 40) {
                return TwoTimes.FULL;
            }
            enter(thing, from, to, value);
            return last();
        }

        int enterAll(int thing, List<Piece> pieces, int more) {
            if (last() + pieces.size() > 40) {
                return TwoTimes.FULL;
            }
            for (Piece piece : pieces) {
                enter(thing, piece.from, piece.to, piece.value + more);
            }
            return pieces.size();
        }

        int raise(int thing, int days, int more) {
            int refusal = refusalOfDays(thing, days);
            if (refusal != 0) {
                return refusal;
            }
            int from = days & 127;
            int to = (days >> 7) & 127;
            List<Piece> parts = new ArrayList<>();
            for (Piece piece : pieces(last(), thing)) {
                int partFrom = Math.max(from, piece.from);
                int partTo = Math.min(to, piece.to);
                if (partFrom < partTo) {
                    parts.add(new Piece(partFrom, partTo, piece.value));
                }
            }
            return enterAll(thing, parts, more);
        }

        int copy(int from, int to) {
            if (from < 0 || from > 5 || to < 0 || to > 5) {
                return TwoTimes.BAD_THING;
            }
            return enterAll(to, pieces(last(), from), 0);
        }

        List<Piece> pieces(int n, int thing) {
            Integer[] row = tables.get(n)[thing];
            List<Piece> pieces = new ArrayList<>();
            int day = 0;
            while (day < 100) {
                int start = day;
                while (day < 100 && same(row[start], row[day])) {
                    day++;
                }
                if (row[start] != null) {
                    pieces.add(new Piece(start, day, row[start]));
                }
            }
            return pieces;
        }

        /** 0 if n, thing and day are all good, else the answer that is due. */
        int refusal(int n, int thing, int day) {
            if (n < 0 || n > last()) {
                return TwoTimes.BAD_ENTRY;
            }
            if (thing < 0 || thing > 5) {
                return TwoTimes.BAD_THING;
            }
            return day < 0 || day > 99 ? TwoTimes.BAD_DAYS : 0;
        }

        int at(int n, int thing, int day) {
            int refusal = refusal(n, thing, day);
            if (refusal != 0) {
                return refusal;
            }
            Integer value = tables.get(n)[thing][day];
            return value == null ? TwoTimes.NOTHING : value;
        }

        boolean known(int n, int thing, int day) {
            return refusal(n, thing, day) == 0 && tables.get(n)[thing][day] != null;
        }

        int countPieces(int n, int thing) {
            int refusal = refusal(n, thing, 0);
            return refusal != 0 ? refusal : pieces(n, thing).size();
        }

        int pieceEdge(int n, int thing, int i, boolean first) {
            int refusal = refusal(n, thing, 0);
            if (refusal != 0) {
                return refusal;
            }
            List<Piece> pieces = pieces(n, thing);
            if (i < 0 || i >= pieces.size()) {
                return TwoTimes.NOTHING;
            }
            return first ? pieces.get(i).from : pieces.get(i).to;
        }

        int sumAt(int n, int day) {
            int refusal = refusal(n, 0, day);
            if (refusal != 0) {
                return refusal;
            }
            int sum = 0;
            for (Integer[] row : tables.get(n)) {
                sum += row[day] == null ? 0 : row[day];
            }
            return sum;
        }

        int changed(int n, int m, int thing) {
            if (refusal(m, 0, 0) != 0) {
                return TwoTimes.BAD_ENTRY;
            }
            int refusal = refusal(n, thing, 0);
            if (refusal != 0) {
                return refusal;
            }
            int count = 0;
            for (int day = 0; day < 100; day++) {
                if (!same(tables.get(n)[thing][day], tables.get(m)[thing][day])) {
                    count++;
                }
            }
            return count;
        }

        int since(int thing, int day) {
            int refusal = refusal(0, thing, day);
            if (refusal != 0) {
                return refusal;
            }
            int least = 0;
            for (int n = 0; n <= last(); n++) {
                if (!same(tables.get(n)[thing][day], tables.get(last())[thing][day])) {
                    least = n + 1;
                }
            }
            return least;
        }

        static boolean same(Integer a, Integer b) {
            return a == null ? b == null : a.equals(b);
        }
    }

    private static int wrong = 0;
    private static long calls = 0;

    private final Random random;
    private final TwoTimes x = new TwoTimes();
    private final Model model = new Model();
    private final int things;
    private final int seed;

    private TwoTimesAgainstModel(int seed) {
        this.seed = seed;
        random = new Random(seed);
        // Few things in some runs, so that their entries meet each other more often.
        things = 1 + random.nextInt(6);
    }

    public static void main(String[] args) {
        for (int seed = 0; seed < RUNS; seed++) {
            new TwoTimesAgainstModel(seed).run();
        }
        System.out.println(calls + " calls beside the model, " + wrong + " answers not as due");
        if (wrong != 0) {
            System.exit(1);
        }
    }

    private void run() {
        for (int call = 0; call < CALLS_OF_ONE_OBJECT; call++) {
            if (random.nextInt(4) == 0) {
                write();
            } else {
                read();
            }
        }
    }

    private void due(String call, long got, long want) {
        calls++;
        if (got != want) {
            wrong++;
            if (wrong <= MOST_SHOWN) {
                System.out.println("seed " + seed + ": " + call + " answered " + got + ", due is " + want);
            }
        }
    }

    private boolean rarely() {
        return random.nextInt(30) == 0;
    }

    private int anyThing() {
        return rarely() ? random.nextInt(12) - 3 : random.nextInt(things);
    }

    private int anyDay() {
        return rarely() ? random.nextInt(140) - 20 : random.nextInt(100);
    }

    private int anyNumber() {
        if (rarely()) {
            return random.nextInt(60) - 10;
        }
        return random.nextInt(3) == 0 ? model.last() : random.nextInt(model.last() + 1);
    }

    private int anyDays() {
        if (rarely()) {
            return random.nextInt();
        }
        int from = random.nextInt(100);
        int to = from + 1 + random.nextInt(100 - from);
        int otherBits = rarely() ? random.nextInt() << 14 : 0;
        return from + 128 * to | otherBits;
    }

    private int anyValue() {
        return rarely() ? random.nextInt() : random.nextInt(4) - 6;
    }

    private void write() {
        int thing = anyThing();
        int other = anyThing();
        int days = anyDays();
        int value = anyValue();
        String on = "(" + thing + ", " + days + ", " + value + ")";
        switch (random.nextInt(12)) {
            case 0, 1, 2, 3, 4, 5 -> due("say" + on, x.say(thing, days, value), model.enterOne(thing, days, value));
            case 6, 7 -> due("unsay" + on, x.unsay(thing, days), model.enterOne(thing, days, null));
            case 8, 9 -> due("raise" + on, x.raise(thing, days, value), model.raise(thing, days, value));
            case 10 -> due("copy(" + thing + ", " + other + ")", x.copy(thing, other), model.copy(thing, other));
            default -> clearIfFull();
        }
    }

    private void clearIfFull() {
        if (model.last() >= 38) {
            x.clear();
            model.clear();
        }
    }

    private void read() {
        int n = anyNumber();
        int m = anyNumber();
        int thing = anyThing();
        int day = anyDay();
        int i = random.nextInt(8) - 1;
        String on = "(n " + n + ", m " + m + ", thing " + thing + ", day " + day + ", i " + i + ")";
        switch (random.nextInt(8)) {
            case 0 -> due("at" + on, x.at(n, thing, day), model.at(n, thing, day));
            case 1 -> due("known" + on, x.known(n, thing, day) ? 1 : 0, model.known(n, thing, day) ? 1 : 0);
            case 2 -> due("pieces" + on, x.pieces(n, thing), model.countPieces(n, thing));
            case 3 -> due("pieceFrom" + on, x.pieceFrom(n, thing, i), model.pieceEdge(n, thing, i, true));
            case 4 -> due("pieceTo" + on, x.pieceTo(n, thing, i), model.pieceEdge(n, thing, i, false));
            case 5 -> due("sumAt" + on, x.sumAt(n, day), model.sumAt(n, day));
            case 6 -> due("changed" + on, x.changed(n, m, thing), model.changed(n, m, thing));
            default -> due("since" + on, x.since(thing, day), model.since(thing, day));
        }
    }
}
