/** Promises 19 to 23: moves that a SHEET tells. */
final class MovesTest {
    private static final int MIN = Integer.MIN_VALUE, MAX = Integer.MAX_VALUE;

    public static void main(String[] args) {
        judges();
        noMoves();
        mostMoves();
        lastRowHits();
        sorts();
        refusals();
        badNumbers();
        kindsByKind();
        kindsByMore();
        kindsOfBarrow();
        kindsByLaw();
        widths();
        widthsWhereItFits();
        allWidths();
        laws();
        Due.end();
    }

    private static void ends(ThreePoints x, int s, int v, int place, int heading, int points, int wear) {
        Due.is("20 PLACE", x.ends(s, v, 0), place);
        Due.is("20 HEADING", x.ends(s, v, 1), heading);
        Due.is("20 POINTS", x.ends(s, v, 2), points);
        Due.is("20 WEAR", x.ends(s, v, 3), wear);
    }

    private static void judges() {
        ThreePoints x = new ThreePoints();
        x.vehicle(0, 4);
        x.vehicle(0, 20);
        x.vehicle(0, 1);
        Due.sheet(x, 0, 0, 1, 4, 1, -1, 3, 0, 1, 2);
        Due.is("19 the row of the first that hits", x.judge(0, 0), 1);
        ends(x, 0, 0, 4, 6, 2, 12);
        Due.is("19 none", x.judge(0, 1), -1);
        // 27 HEADING 4, back 23 20 17, HEADING 7, forward 18 18
        ends(x, 0, 1, 18, 9, 3, 18);
        Due.is("19 the first STEP of all", x.judge(0, 2), 0);
        ends(x, 0, 2, 1, 0, 0, 0);
        Due.same("it is in thought", Due.state(x, 1), "0 0 20 0 0 0 -1 5 4");

        x.drive(1, 0, 1);
        Due.sheet(x, 3, 0, 0, 2);
        ends(x, 3, 1, 22, 1, 1, 4);
        Due.sheet(x, 3, 1, 0, 2, 1, 1, 1, 0, 0, 1);
        // its POINTS and WEAR go on from what they are
        ends(x, 3, 1, 17, 0, 3, 2 + 2 + 2 + 1);
        Due.sheet(x, 2, 0, 0, 30, 0, -1, 30, 1, 0, 1);
        Due.is("19 behind many STEPS", x.judge(2, 1), 0);
        ends(x, 2, 1, 38, 1, 1, 2 + 18);
    }

    private static void noMoves() {
        ThreePoints x = new ThreePoints();
        x.vehicle(0, 20);
        Due.sheet(x, 0);
        Due.is("19 of no moves", x.judge(0, 0), -1);
        ends(x, 0, 0, 20, 0, 0, 0);
        Due.is("21 of no moves", x.kinds(0, 0, 0), 0);
        Due.is("21 of no moves", x.kinds(0, 0, 1), 0);
        Due.is("22 of no moves", x.widths(0, 0, 0), 21);
        Due.is("22 of no moves", x.widths(0, 0, 1), 40);
        Due.is("23 of no moves", x.laws(0, 0), 1);
    }

    private static void mostMoves() {
        ThreePoints x = new ThreePoints();
        x.vehicle(0, 20);
        int[] moves = new int[39];
        for (int i = 0; i < 13; i++) {
            moves[3 * i] = i % 2;
            moves[3 * i + 2] = 30;
        }
        Due.sheet(x, 0, moves);
        ends(x, 0, 0, 20, 0, 13, 390);
        Due.law(x, "clears 1 ; wears 25 ; sure 1 ;");
        ends(x, 0, 0, 20, 0, 13, 9750);
        Due.law(x, "clears 1 ; wears 26 ; sure 1 ;");
        ends(x, 0, 0, 20, 0, 13, 9999);
    }

    /** Rows count from 0, and of a row's STEPS the last one counts, too. */
    private static void lastRowHits() {
        ThreePoints x = new ThreePoints();
        x.vehicle(0, 20);
        x.drive(0, 0, 1);
        int[] moves = new int[39];
        for (int i = 0; i < 13; i++) {
            moves[3 * i] = i % 2;
            moves[3 * i + 2] = 9;
        }
        Due.sheet(x, 0, moves);
        // by HEADING 1 from 20 up to 29 and down again, 13 times
        Due.is("19 none", x.judge(0, 0), -1);
        ends(x, 0, 0, 29, 1, 13, 2 + 117);
        x.cell(0, 38, 18);
        Due.is("19 the last STEP of the last row still CAN BE", x.judge(0, 0), -1);
        ends(x, 0, 0, 38, 1, 13, 2 + 126);
        x.cell(0, 38, 19);
        Due.is("19 the last STEP of the last row CAN not BE", x.judge(0, 0), 12);
        ends(x, 0, 0, 38, 1, 13, 2 + 126);
        Due.is("22 one wider", x.widths(0, 0, 0), 41);
        Due.is("21 HEADING 9 is not had", x.kinds(0, 0, 0), 0);
        Due.is("23 by no TEXT", x.laws(0, 0), 0);
        Due.text(x, "clears 0 ; wears 1 ; sure 1 ;");
        Due.is("23 by the new TEXT", x.laws(0, 0), 2);
    }

    private static void allWidths() {
        ThreePoints x = new ThreePoints();
        x.vehicle(0, 4);
        Due.sheet(x, 0, 0, 0, 30);
        Due.is("22 the least there is", x.widths(0, 0, 0), 8);
        Due.is("22 all", x.widths(0, 0, 1), 53);
        x.begin(0, 39);
        x.set(0, 60);
        x.begin(0, 59);
        Due.is("22 the greatest there is", x.widths(0, 0, 0), 60);
        Due.is("22 one", x.widths(0, 0, 1), 1);
        Due.sheet(x, 0, 0, 1, 1);
        Due.is("22 none", x.widths(0, 0, 0), -1);
        Due.is("22 none", x.widths(0, 0, 1), 0);
    }

    private static void sorts() {
        for (int sort = 0; sort < 3; sort++) {
            ThreePoints x = new ThreePoints();
            x.vehicle(0, 20);
            Due.sheetOf(x, 1, sort, 1, -1, 3);
            Due.is("19 by SHEETS of sort " + sort, x.judge(1, 0), -1);
            ends(x, 1, 0, 16, 3, 1, 6);
        }
    }

    private static void refused(ThreePoints x, int s, int v, int want) {
        Due.is("19 s " + s + " v " + v, x.judge(s, v), want);
        for (int what : new int[] {0, 9}) {
            Due.is("20 s " + s + " v " + v, x.ends(s, v, what), want);
            Due.is("21 s " + s + " v " + v, x.kinds(s, v, what), want);
            Due.is("22 s " + s + " v " + v, x.widths(s, v, what), want);
        }
        Due.is("23 s " + s + " v " + v, x.laws(s, v), want);
    }

    private static void refusals() {
        ThreePoints x = new ThreePoints();
        Due.sheet(x, 0, 0, 0, 1);
        Due.sheet(x, 1, 0, 0);
        for (int s : new int[] {-1, 4, MIN, MAX}) refused(x, s, 9, -2);
        refused(x, 2, 9, -11);
        refused(x, 1, 9, -2);
        for (int v : new int[] {-1, 0, MIN, MAX}) refused(x, 0, v, -5);
        x.vehicle(0, 20);
        for (int what : new int[] {-1, 4, MIN, MAX}) Due.is("20 what " + what, x.ends(0, 0, what), -7);
        for (int what : new int[] {-1, 2, MIN, MAX}) {
            Due.is("21 sort " + what, x.kinds(0, 0, what), -7);
            Due.is("22 what " + what, x.widths(0, 0, what), -7);
        }
        x.sheet(0, -1, 0);
        refused(x, 0, 0, -11);
    }

    private static void badNumbers() {
        int[][] bad = {{-1, 0, 1}, {2, 0, 1}, {0, -2, 1}, {0, 2, 1}, {0, 0, 0}, {0, 0, 31}, {0, 0, -1}, {MIN, 0, 1},
            {0, MAX, 1}, {0, 0, MAX}, {0, 0, 1, 0, 0, 0}, {0, 0, 1, 0, 3, 1}, {0, 0, 1, 2, 0, 1}, {0, 0, 1, 0}, {0}};
        for (int[] numbers : bad) {
            ThreePoints x = new ThreePoints();
            x.vehicle(0, 20);
            Due.sheet(x, 0, numbers);
            refused(x, 0, 0, -2);
            refused(x, 0, 1, -2);
        }
        ThreePoints x = new ThreePoints();
        x.vehicle(0, 20);
        Due.sheet(x, 0, 1, 1, 30);
        Due.is("19 the greatest", x.judge(0, 0), 0);
        Due.sheet(x, 0, 0, -1, 1);
        Due.is("19 the least", x.judge(0, 0), -1);
        x.sheet(0, 0, 40);
        refused(x, 0, 0, -2);
    }

    private static int kinds(int kindMore, int sort, int... moves) {
        ThreePoints x = new ThreePoints();
        x.vehicle(kindMore, 20);
        Due.sheet(x, 0, moves);
        return x.kinds(0, 0, sort);
    }

    private static void kindsByKind() {
        Due.is("21 forward round, MORE 0", kinds(0, 0, 0, 1, 8), 47);
        Due.is("21 whatever KIND it is", kinds(40, 0, 0, 1, 8), 47);
        Due.is("21 a WORN one with odd MORE doesn't turn so", kinds(1, 0, 0, 1, 8), 15);
        Due.is("21 too long with MORE 3", kinds(3, 0, 0, 1, 8), 5);
        Due.is("21 half round only", kinds(0, 0, 0, 1, 7), 0);
        Due.is("21 half round only", kinds(0, 0, 0, 1, 8, 0, 1, 1), 0);
        Due.is("21 a BARROW in half", kinds(0, 0, 0, 1, 4), 16);
        Due.is("21 back, a TRAILER the other way", kinds(0, 0, 1, 1, 8) & 8, 8);
    }

    private static void kindsByMore() {
        Due.is("21 a VAN by any MORE", kinds(0, 1, 0, 1, 8), 1023);
        Due.is("21 a STRETCHED one, not too long", kinds(10, 1, 0, 1, 8), 7);
        Due.is("21 a WORN one by even MORE", kinds(50, 1, 0, 1, 8), 0x155);
        Due.is("21 a TRAILER back, not too long", kinds(30, 1, 1, 1, 8), 15);
        ThreePoints x = new ThreePoints();
        x.set(0, 60);
        x.vehicle(30, 30);
        Due.sheet(x, 0, 1, 1, 8);
        Due.is("21 a TRAILER back turns up to MORE 4", x.kinds(0, 0, 1), 31);
        Due.same("it is in thought", Due.state(x, 0), "3 0 30 0 0 0 -1 5 4");
    }

    private static void kindsOfBarrow() {
        ThreePoints x = new ThreePoints();
        x.vehicle(0, 20);
        x.drive(0, 0, 1);
        Due.sheet(x, 0, 0, 1, 4);
        // it is HEADING 1 now, so 9 is the other one
        Due.is("21 8 further than now", x.kinds(0, 0, 0), 16);
        Due.sheet(x, 0, 0, 1, 7);
        Due.is("21 HEADING 8 is not", x.kinds(0, 0, 0), 0);
    }

    private static void kindsByLaw() {
        ThreePoints x = new ThreePoints();
        x.vehicle(0, 5);
        Due.law(x, "clears (heading = 0) * 9 + (more = 2) * 9 ; wears 1 ; sure 1 ;");
        Due.sheet(x, 0, 0, 1, 8);
        Due.is("it doesn't FIT where it is", x.fit(0, 500), 0);
        Due.is("21 only the STEPS must, each by its MORE", x.kinds(0, 0, 1), 1023 - 4);
    }

    private static void widths() {
        ThreePoints x = new ThreePoints();
        x.vehicle(0, 20);
        Due.sheet(x, 0, 0, 1, 8);
        Due.is("22 the least", x.widths(0, 0, 0), 39);
        Due.is("22 how many", x.widths(0, 0, 1), 22);
        Due.sheet(x, 0, 0, 1, 8, 0, 0, 30);
        Due.is("22 the last row counts", x.widths(0, 0, 0), 39);
        Due.sheet(x, 0, 0, 1, 4, 0, 0, 9);
        // 27, nine times 4 further, and 5 ahead
        Due.is("22 none", x.widths(0, 0, 0), -1);
        Due.is("22 none", x.widths(0, 0, 1), 0);
        Due.sheet(x, 0, 0, 1, 4, 0, 0, 6);
        Due.is("22 two", x.widths(0, 0, 0), 57);
        Due.is("22 four", x.widths(0, 0, 1), 4);
        x.set(1, 5);
        Due.is("22 the OPENING stays", x.widths(0, 0, 0), 52);
        x.set(1, 20);
        Due.is("22 its PLACE must be in THE LANE", x.widths(0, 0, 0), 51);
        Due.is("22 how many", x.widths(0, 0, 1), 10);
        Due.is("THE LANE stays", x.count(1), 40);
    }

    private static void widthsWhereItFits() {
        ThreePoints x = new ThreePoints();
        x.vehicle(0, 5);
        Due.law(x, "clears (heading = 0 and width < 30) * 9 ; wears 1 ; sure 1 ;");
        Due.sheet(x, 0, 0, 1, 1);
        Due.is("22 where it FITS to begin with", x.widths(0, 0, 0), 30);
        Due.is("22 where it FITS to begin with", x.widths(0, 0, 1), 31);
        Due.law(x, "clears (40 < width) * 9 ; wears 1 ; sure 1 ;");
        // 5 .. 8 are its PLACES, 10 the greatest of its ends
        Due.sheet(x, 0, 0, 1, 1, 0, 0, 3);
        Due.is("22 not too wide", x.widths(0, 0, 0), 9);
        Due.is("22 not too wide", x.widths(0, 0, 1), 32);
    }

    private static void laws() {
        ThreePoints x = new ThreePoints();
        x.vehicle(0, 5);
        Due.text(x, "clears 9 ; wears 1 ; sure 1 ;");
        Due.text(x, "clears 0 ; wears 1 ; sure 1 ;");
        Due.text(x, "clears (heading = 0) * 9 ; wears 1 ; sure 1 ;");
        Due.text(x, "clears more + 5 ; wears 1 ; sure 1 ;");
        Due.sheet(x, 0, 0, 1, 1);
        Due.is("23 TEXTS by which all CAN BE", x.laws(0, 0), 0b01101);
        Due.sheet(x, 0, 0, 0, 1);
        Due.is("23 TEXTS by which all CAN BE", x.laws(0, 0), 0b10101);
        x.force(1);
        Due.is("23 whatever is THE LAW", x.laws(0, 0), 0b10101);
        Due.is("23 THE LAW stays", x.count(4), 1);
        Due.text(x, "clears 5 ; wears 1 ; sure 1 ;");
        Due.is("23 of six", x.laws(0, 0), 0b110101);
        Due.sheet(x, 0, 0, -1, 9);
        Due.is("23 none", x.laws(0, 0), 0);
    }
}
