import java.util.ArrayList;
import java.util.List;

/**
 * Of every promise its refusals, of several the first one told; that a refused call changes nothing, or just what
 * the document names; and that what is asked changes nothing.
 */
final class RefusalsTest {
    private static final int MIN = Integer.MIN_VALUE, MAX = Integer.MAX_VALUE;
    private static final int BAD = -2, STATE = -3, FULL = -4, FIRST = -5, LATER = -7;
    private static final int MISSING = -11, OUTSIDE = -12, UNLIKE = -13, NEGATIVE = -14;
    /** SHEETS of the made states. */
    private static final int MOVES = 0, PAIRS = 1, FOUR = 2, NOTHING = 3;

    interface Call {
        long on(ThreePoints x);
    }

    interface Making {
        ThreePoints make();
    }

    private final String name;
    private final Making state;
    private final String untouched;

    private RefusalsTest(String name, Making state) {
        this.name = name;
        this.state = state;
        untouched = print(state.make());
    }

    public static void main(String[] args) {
        RefusalsTest some = new RefusalsTest("some", RefusalsTest::some);
        RefusalsTest full = new RefusalsTest("full", RefusalsTest::full);
        RefusalsTest empty = new RefusalsTest("empty", ThreePoints::new);
        some.lane();
        some.vehicles();
        some.turned();
        some.moves();
        some.badMoves();
        some.lots();
        some.sheets();
        some.hosts();
        full.fullOnes();
        empty.emptyOnes();
        some.asked();
        full.asked();
        some.faultEmptiesTheTape();
        some.whatStoodAheadCame();
        some.othersAreLeftOut();
        Due.end();
    }

    /** Three VEHICLES, one of them at the wall, one in the OPENING; three TEXTS; bytes on THE TAPE; an older IMAGE. */
    private static ThreePoints some() {
        ThreePoints x = new ThreePoints();
        x.set(0, 50);
        x.vehicle(13, 20);
        x.vehicle(0, 30);
        x.drive(0, 1, 1);
        x.image();
        x.set(0, 44);
        x.set(1, 8);
        x.begin(1, 1);
        x.drive(0, 0, 1);
        x.vehicle(20, 37);
        for (int i = 0; i < 4; i++) x.drive(2, 0, 1);
        Due.law(x, "clears 1 ; wears 3 + steers ; sure 45 ;");
        Due.text(x, "clears more ; wears 4 ; sure 46 ;");
        Due.feed(x, "clears 2 ; wears 7 ; su");
        Due.sheet(x, MOVES, 0, 1, 2, 1, 0, 3);
        Due.sheetOf(x, PAIRS, 0, 0, 20, 99, 20, 34, 21, 5);
        Due.sheetOf(x, FOUR, 1, 0, 1, 2, 3);
        return x;
    }

    /** Four VEHICLES, six TEXTS, 158 bytes on THE TAPE, no IMAGE. */
    private static ThreePoints full() {
        ThreePoints x = new ThreePoints();
        for (int i = 0; i < 4; i++) x.vehicle(11 * i, 10 + i);
        for (int i = 1; i < 6; i++) Due.law(x, "clears 1 ; wears " + i + " ; sure 5 ;");
        for (int i = 0; i < 31; i++) x.feed(5, 'a', 'b', 'c', 'd', 'e');
        x.feed(3, 'a', 'b', 'c', 0, 0);
        Due.sheet(x, MOVES, 1, 1, 4);
        Due.sheetOf(x, PAIRS, 0, 0, 20, 0, 20);
        Due.sheetOf(x, FOUR, 1, 9, 9, 9, 9);
        return x;
    }

    /** All that can be asked of an object, and then what only further calls tell: TEXTS, SHEETS, THE TAPE, THE IMAGE. */
    private static String print(ThreePoints x) {
        StringBuilder all = new StringBuilder();
        printState(x, all);
        for (int s = 0; s < 4; s++) {
            for (int i = 0; i <= 8; i++) add(all, x.copy(s, i, s, i, 1));
            for (int t = 0; t < 4; t++) add(all, x.copy(s, 0, t, 0, 0));
            for (int what = 0; what < 4; what++) add(all, x.ends(s, 0, what));
            add(all, x.judge(s, 1));
        }
        for (int t = 0; t < 6; t++) {
            add(all, x.force(t));
            for (int part = 0; part < 3; part++) add(all, x.asks(part, 0, 1203, 11));
        }
        for (int i = 0; i < 4; i++) add(all, x.vehiclesBy(PAIRS, 0, 2 * i, 1));
        Due.feed(x, "re 8 ;");
        add(all, x.text());
        add(all, x.force(x.count(3) - 1));
        for (int part = 0; part < 3; part++) add(all, x.asks(part, 0, 1203, 11));
        printState(x, all);
        add(all, x.back());
        printState(x, all);
        return all.toString();
    }

    private static void printState(ThreePoints x, StringBuilder all) {
        for (int what = 0; what < 6; what++) add(all, x.count(what));
        for (int v = 0; v < 4; v++) {
            for (int what = 0; what < 9; what++) add(all, x.told(v, what));
        }
        all.append('\n');
    }

    private static void add(StringBuilder all, long answer) {
        all.append(answer).append(' ');
    }

    /** The call answers so, and all is as it was. */
    private void stays(String call, long want, Call it) {
        ThreePoints x = state.make();
        Due.is(name + ": " + call, it.on(x), want);
        Due.same(name + ": " + call + " changes nothing", print(x), untouched);
    }

    private void lane() {
        for (int what : new int[] {-1, 6, MIN, MAX}) stays("2 what " + what, BAD, x -> x.count(what));
        for (int what : new int[] {-1, 2, MIN, MAX}) stays("3 what ahead of v " + what, FIRST, x -> x.set(what, -1));
        for (int v : new int[] {7, 61, MIN, MAX}) stays("3 WIDTH " + v, LATER, x -> x.set(0, v));
        for (int v : new int[] {-1, 21, MIN, MAX}) stays("3 OPENING " + v, LATER, x -> x.set(1, v));
        stays("3 WIDTH, the first would not FIT", STATE, x -> x.set(0, 20));
        stays("3 WIDTH, the third would not FIT", STATE, x -> x.set(0, 43));
        stays("3 OPENING, the third would not FIT", STATE, x -> x.set(1, 5));
        for (int n : new int[] {0, 6, MIN, MAX}) stays("4 n " + n, BAD, x -> x.feed(n, 1, 1, 1, 1, 1));
        for (int b : new int[] {-1, 256}) {
            stays("4 a " + b, BAD, x -> x.feed(1, b, 1, 1, 1, 1));
            stays("4 b " + b, BAD, x -> x.feed(1, 1, b, 1, 1, 1));
            stays("4 c " + b, BAD, x -> x.feed(1, 1, 1, b, 1, 1));
            stays("4 d " + b, BAD, x -> x.feed(1, 1, 1, 1, b, 1));
            stays("4 e " + b, BAD, x -> x.feed(1, 1, 1, 1, 1, b));
        }
        for (int t : new int[] {-1, 3, 6, MIN, MAX}) stays("6 t " + t, BAD, x -> x.force(t));
        for (int part : new int[] {-1, 3}) stays("7 part " + part, BAD, x -> x.asks(part, 0, 0, 0));
        for (int v : new int[] {-1, 3}) stays("7 v " + v, BAD, x -> x.asks(0, v, 0, 0));
        for (int at : new int[] {-1, 16, 99, 4416, 4500}) stays("7 at " + at, BAD, x -> x.asks(0, 0, at, 0));
        for (int ws : new int[] {-1, 2, 9, 12, 20}) stays("7 wallSteers " + ws, BAD, x -> x.asks(0, 0, 0, ws));
    }

    private void vehicles() {
        for (int km : new int[] {-1, 60, MIN, MAX}) stays("8 kindMore, ahead of STATE " + km, BAD, x -> x.vehicle(km, 0));
        for (int at : new int[] {-1, 45, MIN, MAX}) stays("8 at " + at, BAD, x -> x.vehicle(0, at));
        for (int at : new int[] {0, 44}) stays("8 it doesn't FIT " + at, STATE, x -> x.vehicle(0, at));
        for (int v : new int[] {-1, 3, 4, MIN, MAX}) {
            stays("9 v, ahead of what " + v, FIRST, x -> x.told(v, 9));
            stays("10 v, ahead of placeHeading " + v, FIRST, x -> x.fit(v, -1));
            stays("11 v, ahead of way and WHEEL " + v, FIRST, x -> x.drive(v, 2, 2));
            stays("12 v, ahead of PLACE " + v, FIRST, x -> x.begin(v, -1));
            stays("12 v, ahead of STATE " + v, FIRST, x -> x.begin(v, 0));
        }
        for (int what : new int[] {-1, 9}) stays("9 what " + what, LATER, x -> x.told(0, what));
        for (int at : new int[] {-1, 16, 99, 4416, 4500}) stays("10 placeHeading " + at, LATER, x -> x.fit(0, at));
        for (int way : new int[] {-1, 2}) stays("11 way, ahead of STATE " + way, LATER, x -> x.drive(1, way, 1));
        for (int w : new int[] {-2, 2}) stays("11 WHEEL, ahead of STATE " + w, LATER, x -> x.drive(1, 0, w));
        for (int way = 0; way < 2; way++) {
            int to = way;
            stays("11 it CAN not BE, way " + way, STATE, x -> x.drive(1, to, 1));
            stays("11 it CAN not BE, way " + way, STATE, x -> x.drive(1, to, -1));
        }
        stays("11 no PLACE in THE LANE", STATE, x -> x.drive(2, 0, 0));
        for (int at : new int[] {-1, 45}) stays("12 PLACE " + at, LATER, x -> x.begin(0, at));
        for (int at : new int[] {0, 44}) stays("12 it doesn't FIT " + at, STATE, x -> x.begin(0, at));
    }

    private void turned() {
        for (int v : new int[] {-1, 3, 4, MIN, MAX}) {
            stays("13 v, ahead of goalWhat " + v, FIRST, x -> x.turned(v, 2));
            stays("14 v, ahead of goalWhat " + v, FIRST, x -> x.where(v, 2));
            stays("15 v, ahead of most " + v, FIRST, x -> x.narrow(v, 0));
            stays("16 v, ahead of most " + v, FIRST, x -> x.cut(v, -1));
            stays("17 v " + v, FIRST, x -> x.headings(v));
        }
        for (int g : new int[] {-1, 2, 9, 12, 20, 21}) {
            stays("13 goalWhat " + g, LATER, x -> x.turned(0, g));
            stays("14 goalWhat " + g, LATER, x -> x.where(0, g));
        }
        for (int most : new int[] {0, 100}) stays("15 most " + most, LATER, x -> x.narrow(0, most));
        for (int most : new int[] {-1, 100}) stays("16 most " + most, LATER, x -> x.cut(0, most));
        for (int what : new int[] {-1, 2}) stays("18 what " + what, BAD, x -> x.best(what));
    }

    /** The five calls by told moves, with a SHEET, a VEHICLE and, where there is one, a last number. */
    private void told(String why, long want, int s, int v, int last) {
        stays("19 " + why, want, x -> x.judge(s, v));
        stays("20 " + why, want, x -> x.ends(s, v, last));
        stays("21 " + why, want, x -> x.kinds(s, v, last));
        stays("22 " + why, want, x -> x.widths(s, v, last));
        stays("23 " + why, want, x -> x.laws(s, v));
    }

    private void moves() {
        for (int s : new int[] {-1, 4, MIN, MAX}) told("SHEET, ahead of VEHICLE and last " + s, BAD, s, 9, 9);
        told("missing, ahead of VEHICLE and last", MISSING, NOTHING, 9, 9);
        told("not by threes, ahead of VEHICLE and last", BAD, FOUR, 9, 9);
        for (int v : new int[] {-1, 3, 4, MIN, MAX}) told("VEHICLE, ahead of last " + v, FIRST, MOVES, v, 9);
        for (int what : new int[] {-1, 4}) stays("20 what " + what, LATER, x -> x.ends(MOVES, 0, what));
        for (int what : new int[] {-1, 2}) {
            stays("21 sort " + what, LATER, x -> x.kinds(MOVES, 0, what));
            stays("22 what " + what, LATER, x -> x.widths(MOVES, 0, what));
        }
    }

    private static ThreePoints someWith(int[] moves) {
        ThreePoints x = some();
        Due.sheet(x, NOTHING, moves);
        return x;
    }

    /** A number that is none such, in any place of any row, is BAD ahead of the VEHICLE. */
    private void badMoves() {
        int[] good = {0, 1, 1, 1, -1, 30};
        int[][] wrong = {{-1, 2}, {-2, 2}, {0, 31}};
        for (int i = 0; i < good.length; i++) {
            for (int number : wrong[i % 3]) {
                int[] moves = good.clone();
                moves[i] = number;
                RefusalsTest of = new RefusalsTest("number " + i + " is " + number, () -> someWith(moves));
                of.told("a number is none such", BAD, NOTHING, 9, 9);
            }
        }
        for (int size : new int[] {1, 2, 4, 5, 38, 40}) {
            int[] moves = new int[size];
            for (int i = 0; i < size; i++) moves[i] = good[i % 3];
            RefusalsTest of = new RefusalsTest("size " + size, () -> someWith(moves));
            of.told("not by threes", BAD, NOTHING, 0, 0);
        }
    }

    private void lots() {
        for (int v : new int[] {-1, 3, 4, MIN, MAX}) {
            stays("24 v, ahead of all others " + v, FIRST, x -> x.drawn(-1, 61, v, 3));
            stays("25 v " + v, ThreePoints.NO, x -> x.odds(0, 101, v, 0));
        }
        for (int seed : new int[] {-1, 100000, MIN, MAX}) {
            stays("24 SEED " + seed, LATER, x -> x.drawn(seed, 1, 0, 0));
            stays("25 SEED " + seed, ThreePoints.NO, x -> x.odds(seed, 101, 0, 0));
        }
        for (int n : new int[] {-1, 61}) stays("24 n " + n, LATER, x -> x.drawn(1, n, 0, 0));
        for (int what : new int[] {-1, 3}) stays("24 what " + what, LATER, x -> x.drawn(1, 1, 0, what));
        for (int ss : new int[] {-1, -99, 0, 41, 99, 100, 6041, 6101, MIN, MAX}) {
            stays("25 stepsSeeds " + ss, ThreePoints.NO, x -> x.odds(0, ss, 0, 0));
        }
        for (int part : new int[] {-1, 2}) stays("25 part " + part, ThreePoints.NO, x -> x.odds(0, 101, 0, part));
    }

    private void sheets() {
        for (int s : new int[] {-1, 4, MIN, MAX}) {
            stays("28 SHEET, ahead of size below 0 " + s, BAD, x -> x.sheet(s, 0, -1));
            stays("28 SHEET, missing " + s, BAD, x -> x.sheet(s, -1, 0));
            stays("29 SHEET, ahead of outside " + s, BAD, x -> x.cell(s, -1, 7));
        }
        for (int sort : new int[] {-2, 3, MIN, MAX}) stays("28 sort, ahead of size below 0 " + sort, BAD, x -> x.sheet(MOVES, sort, -1));
        for (int sort = 0; sort < 3; sort++) {
            int of = sort;
            for (int n : new int[] {41, MAX}) stays("28 n above 40 " + n, BAD, x -> x.sheet(MOVES, of, n));
            for (int n : new int[] {-1, MIN}) stays("28 n below 0 " + n, NEGATIVE, x -> x.sheet(MOVES, of, n));
        }
        for (int i : new int[] {-1, 0, 40}) stays("29 missing, ahead of outside " + i, MISSING, x -> x.cell(NOTHING, i, 7));
        for (int i : new int[] {-1, 6, 40, MIN, MAX}) stays("29 outside " + i, OUTSIDE, x -> x.cell(MOVES, i, 7));
    }

    private void hosts() {
        for (int s : new int[] {-1, 4, MIN, MAX}) {
            stays("30 SHEET, ahead of missing and outside " + s, BAD, x -> x.copy(s, -1, NOTHING, -1, -1));
            stays("30 other SHEET, ahead of missing and outside " + s, BAD, x -> x.copy(NOTHING, -1, s, -1, -1));
            stays("31 SHEET, ahead of missing " + s, BAD, x -> x.vehiclesBy(s, 0, -1, 1));
        }
        stays("30 missing, ahead of outside", MISSING, x -> x.copy(NOTHING, -1, MOVES, -1, -1));
        stays("30 the other one missing, ahead of outside", MISSING, x -> x.copy(MOVES, -1, NOTHING, -1, -1));
        stays("30 unlike sorts, ahead of outside", UNLIKE, x -> x.copy(MOVES, -1, PAIRS, -1, -1));
        stays("30 unlike sorts, though it is none", UNLIKE, x -> x.copy(MOVES, 0, PAIRS, 0, 0));
        int[][] outside = {{-1, 0, 1}, {0, -1, 1}, {0, 0, -1}, {0, 1, 6}, {1, 0, 6}, {0, 0, 7}, {7, 0, 0}, {0, 7, 0}};
        for (int[] o : outside) stays("30 outside", OUTSIDE, x -> x.copy(MOVES, o[0], MOVES, o[1], o[2]));
        for (int sort : new int[] {-1, 3}) stays("31 sort, ahead of missing " + sort, BAD, x -> x.vehiclesBy(NOTHING, sort, -1, 1));
        for (int n : new int[] {-1, 5}) stays("31 n, ahead of missing " + n, BAD, x -> x.vehiclesBy(NOTHING, 0, -1, n));
        for (int sort = 0; sort < 3; sort++) {
            int of = sort;
            stays("31 missing, ahead of outside", MISSING, x -> x.vehiclesBy(NOTHING, of, -1, 1));
            if (sort != 0) stays("31 of another sort, ahead of outside", UNLIKE, x -> x.vehiclesBy(PAIRS, of, -1, 1));
            stays("31 missing, though it is none", MISSING, x -> x.vehiclesBy(NOTHING, of, 0, 0));
        }
        for (int at : new int[] {-1, 6, 7, MIN, MAX}) stays("31 outside " + at, OUTSIDE, x -> x.vehiclesBy(PAIRS, 0, at, 1));
        stays("31 none", 0, x -> x.vehiclesBy(PAIRS, 0, 0, 0));
        for (int kind : new int[] {-1, 7}) stays("32 kind, ahead of i " + kind, BAD, x -> x.taken(-1, kind));
        for (int i : new int[] {-1, 20, MIN, MAX}) stays("32 i " + i, OUTSIDE, x -> x.taken(i, 6));
        stays("32 nothing lies there, ahead of another KIND", MISSING, x -> x.taken(3, 6));
        stays("32 a VEHICLE for a HEADING", UNLIKE, x -> x.taken(2, 6));
        stays("32 a HEADING for a VEHICLE", UNLIKE, x -> x.taken(4, 0));
        stays("32 another KIND", UNLIKE, x -> x.taken(0, 2));
    }

    private void fullOnes() {
        stays("4 they have not all room", FULL, x -> x.feed(3, 1, 1, 1, 1, 1));
        stays("4 BAD ahead of FULL", BAD, x -> x.feed(6, 1, 1, 1, 1, 1));
        stays("4 BAD ahead of FULL", BAD, x -> x.feed(5, 1, 1, 1, 1, 256));
        // what stands there is no TEXT
        stays("5 FULL ahead of the FAULT", FULL, ThreePoints::text);
        stays("8 FULL", FULL, x -> x.vehicle(0, 20));
        stays("8 FULL ahead of STATE", FULL, x -> x.vehicle(0, 0));
        stays("8 BAD ahead of FULL", BAD, x -> x.vehicle(60, 20));
        stays("8 BAD ahead of FULL", BAD, x -> x.vehicle(0, 41));
        stays("27 there is no IMAGE", STATE, ThreePoints::back);
        stays("31 all are left out", 0, x -> x.vehiclesBy(PAIRS, 0, 0, 2));
        stays("31 all are left out, and one outside", OUTSIDE, x -> x.vehiclesBy(PAIRS, 0, 0, 3));
    }

    private void emptyOnes() {
        stays("27 there is no IMAGE", STATE, ThreePoints::back);
        stays("5 a FAULT of nothing", -100, ThreePoints::text);
        told("missing", MISSING, 0, 0, 0);
        stays("18 none is", -1, x -> x.best(0));
        stays("18 none is", -1, x -> x.best(1));
    }

    /** All calls that only ask, with right numbers. */
    private void asked() {
        List<Call> calls = new ArrayList<>();
        for (int g : new int[] {0, 1, 10, 11}) {
            calls.add(x -> x.asks(1, 1, 1015, g));
            calls.add(x -> x.turned(0, g));
            calls.add(x -> x.where(2, g));
        }
        calls.add(x -> x.fit(0, 1004));
        calls.add(x -> x.narrow(0, 2));
        calls.add(x -> x.cut(2, 99));
        calls.add(x -> x.headings(1));
        calls.add(x -> x.best(0));
        calls.add(x -> x.judge(MOVES, 0));
        calls.add(x -> x.ends(MOVES, 2, 3));
        calls.add(x -> x.kinds(MOVES, 0, 0));
        calls.add(x -> x.kinds(MOVES, 0, 1));
        calls.add(x -> x.widths(MOVES, 0, 0));
        calls.add(x -> x.laws(MOVES, 1));
        calls.add(x -> x.drawn(7, 60, 2, 1));
        calls.add(x -> x.odds(7, 6040, 1, 1));
        calls.add(x -> x.taken(0, 0));
        for (int i = 0; i < calls.size(); i++) {
            ThreePoints x = state.make();
            calls.get(i).on(x);
            Due.same(name + ": asked " + i + " changes nothing", print(x), untouched);
        }
    }

    /** By a FAULT THE TAPE is empty, and that is all. */
    private void faultEmptiesTheTape() {
        ThreePoints x = state.make();
        Due.is("5 a FAULT at its end", x.text(), -121);
        Due.is("5 THE TAPE is empty", x.count(5), 0);
        Due.feed(x, "clears 2 ; wears 7 ; su");
        Due.same("5 nothing else changed", print(x), untouched);
    }

    /** Of pairs from a PLACE on, the last one outside, those ahead came, as by vehicle(). */
    private void whatStoodAheadCame() {
        ThreePoints x = state.make();
        Due.is("31 outside", x.vehiclesBy(PAIRS, 0, 4, 2), OUTSIDE);
        ThreePoints y = state.make();
        Due.is("8 as by vehicle()", y.vehicle(34, 21), 3);
        Due.same("31 what stood ahead came, and that is all", print(x), print(y));
    }

    private void othersAreLeftOut() {
        ThreePoints x = state.make();
        Due.is("31 the second is BAD, the third comes no more", x.vehiclesBy(PAIRS, 0, 0, 3), 1);
        ThreePoints y = state.make();
        Due.is("8 as by vehicle()", y.vehicle(0, 20), 3);
        Due.same("31 others are left out, and that is all", print(x), print(y));
    }
}
