/** Promises 13 to 18: what it takes to head another way. */
final class TurnedTest {
    private static final int MIN = Integer.MIN_VALUE, MAX = Integer.MAX_VALUE;
    private static final int[] BAD_VEHICLES = {-1, 1, 4, MIN, MAX};
    private static final int[] BAD_GOALS = {-1, 2, 9, 12, 20, 21, 100, -10, MIN, MAX};

    public static void main(String[] args) {
        turnedInTheMiddle();
        turnedAtTheWall();
        turnedByLastWay();
        turnedWithKinds();
        turnedByWear();
        turnedTowardAWall();
        turnedFromWhereItDoesNotFit();
        turnedRefused();
        where();
        whereByWear();
        narrow();
        narrowUsesWidth();
        widestNarrow();
        cut();
        deepestCut();
        cutFromWhereItIs();
        headings();
        headingsByOneSide();
        atPlaceZero();
        atPlaceWidth();
        notBelowPlaceZero();
        best();
        nothingChanged();
        Due.end();
    }

    private static void turned(ThreePoints x, int v, int points, int byPoints, int wear, int byWear) {
        Due.is("13 POINTS", x.turned(v, 0), points);
        Due.is("13 first STEP by POINTS", x.turned(v, 1), byPoints);
        Due.is("13 WEAR", x.turned(v, 10), wear);
        Due.is("13 first STEP by WEAR", x.turned(v, 11), byWear);
    }

    private static void turnedInTheMiddle() {
        ThreePoints x = new ThreePoints();
        x.vehicle(0, 20);
        turned(x, 0, 1, 0, 16, 0);
        x.drive(0, 0, 1);
        // seven more STEPS round by the same way, none of which is another POINT
        turned(x, 0, 0, 0, 16, 0);
    }

    private static void turnedAtTheWall() {
        ThreePoints x = new ThreePoints();
        x.vehicle(0, 1);
        turned(x, 0, -1, -1, -1, -1);
        // from 2 it has to go straight a STEP, ahead of HEADING 1 or with it
        x.begin(0, 2);
        turned(x, 0, 1, 1, 17, 0);
        x.begin(0, 39);
        turned(x, 0, -1, -1, -1, -1);
        ThreePoints y = new ThreePoints();
        y.set(0, 60);
        y.vehicle(0, 58);
        turned(y, 0, 1, 0, 17, 0);
        // from 38 down by HEADINGS 15 .. 9, the second STEP straight
        x.begin(0, 38);
        turned(x, 0, 1, 0, 17, 0);
    }

    private static void turnedByLastWay() {
        ThreePoints x = new ThreePoints();
        x.vehicle(0, 20);
        x.drive(0, 1, 0);
        turned(x, 0, 0, 10, 16, 0);
        x.drive(0, 0, 0);
        turned(x, 0, 0, 0, 16, 0);

        // in 14 it takes four ways, one of which it may go already
        ThreePoints y = new ThreePoints();
        y.set(0, 14);
        y.vehicle(0, 7);
        Due.is("13 POINTS", y.turned(0, 0), 4);
        y.drive(0, 0, 0);
        int forward = y.turned(0, 0);
        y.drive(0, 1, 0);
        int back = y.turned(0, 0);
        Due.is("13 the LAST way saves the first POINT", Math.min(forward, back), 3);
    }

    private static void turnedWithKinds() {
        int[][] due = {{13, 1, 0, 16, 0}, {24, 1, 0, 16, 0}, {40, 1, 0, 8, 0}, {50, 1, 0, 16, 2}, {51, 1, 0, 16, 0}};
        for (int[] d : due) {
            ThreePoints x = new ThreePoints();
            x.vehicle(d[0], 20);
            turned(x, 0, d[1], d[2], d[3], d[4]);
        }
    }

    private static void turnedByWear() {
        ThreePoints x = new ThreePoints();
        x.vehicle(0, 20);
        Due.law(x, "clears 1 ; wears 0 ; sure 1 ;");
        turned(x, 0, 1, 0, 0, 0);
        Due.law(x, "clears 1 ; wears 99 ; sure 1 ;");
        turned(x, 0, 1, 0, 8 * 99, 0);
        // HEADINGS of the upper half wear nothing, but the first STEP does
        Due.law(x, "clears 1 ; wears (0 < heading and heading < 8 or heading = 0) * 10 ; sure 1 ;");
        turned(x, 0, 1, 0, 10, 0);
        // and those of the lower half
        Due.law(x, "clears 1 ; wears (8 < heading or heading = 0) * 10 ; sure 1 ;");
        turned(x, 0, 1, 0, 10, 2);
        // straight is dear
        Due.law(x, "clears 1 ; wears 50 - steers * 49 ; sure 1 ;");
        turned(x, 0, 1, 0, 8, 0);
    }

    /** With its FRONT at a wall there is no way but back, eight STEPS to either side. */
    private static void turnedTowardAWall() {
        ThreePoints x = new ThreePoints();
        x.vehicle(0, 27);
        for (int i = 0; i < 4; i++) x.drive(0, 0, 1);
        Due.same("toward the far wall", Due.state(x, 0), "0 0 34 4 1 8 0 5 4");
        turned(x, 0, 1, 10, 16, 10);
        x.vehicle(0, 13);
        for (int i = 0; i < 4; i++) x.drive(1, 0, -1);
        Due.same("toward the near wall", Due.state(x, 1), "0 0 6 12 1 8 0 5 4");
        turned(x, 1, 1, 10, 16, 10);

        // a STEP more would be out of THE LANE, though its FRONT could go on
        ThreePoints y = new ThreePoints();
        y.set(0, 60);
        y.set(1, 20);
        y.vehicle(0, 47);
        for (int i = 0; i < 4; i++) y.drive(0, 0, 1);
        Due.is("11 into the OPENING", y.drive(0, 0, 0), 58);
        turned(y, 0, 1, 10, 16, 10);
    }

    private static void turnedFromWhereItDoesNotFit() {
        ThreePoints y = new ThreePoints();
        y.set(0, 18);
        y.vehicle(0, 8);
        Due.law(y, "clears (heading = 0) * 9 ; wears 1 ; sure 1 ;");
        Due.is("13 it doesn't FIT where it is", y.fit(0, 800), 0);
        Due.isTrue("13 but a STEP off it does", y.turned(0, 0) > 0);
        Due.is("13 no STEP straight", y.drive(0, 0, 0), -3);
        Due.isTrue("17 its own HEADING is one", (y.headings(0) & 1) == 1);
    }

    private static void turnedRefused() {
        ThreePoints x = new ThreePoints();
        Due.is("13 no VEHICLE", x.turned(0, 0), -5);
        x.vehicle(0, 20);
        for (int v : BAD_VEHICLES) Due.is("13 v ahead of goalWhat " + v, x.turned(v, 2), -5);
        for (int g : BAD_GOALS) Due.is("13 goalWhat " + g, x.turned(0, g), -7);
        ThreePoints y = new ThreePoints();
        y.set(0, 12);
        y.vehicle(34, 6);
        turned(y, 0, -1, -1, -1, -1);
    }

    private static void where(ThreePoints x, int v, int atPoints, int points, int atWear, int wear) {
        Due.is("14 where by POINTS", x.where(v, 0), atPoints);
        Due.is("14 POINTS", x.where(v, 1), points);
        Due.is("14 where by WEAR", x.where(v, 10), atWear);
        Due.is("14 WEAR", x.where(v, 11), wear);
    }

    private static void where() {
        ThreePoints x = new ThreePoints();
        Due.is("14 no VEHICLE", x.where(0, 0), -5);
        x.vehicle(0, 20);
        where(x, 0, 2, 1, 3, 16);
        x.drive(0, 1, 1);
        x.drive(0, 1, 1);
        // from HEADING 0 and no LAST way, wherever it is
        where(x, 0, 2, 1, 3, 16);
        for (int v : BAD_VEHICLES) Due.is("14 v ahead of goalWhat " + v, x.where(v, 2), -5);
        for (int g : BAD_GOALS) Due.is("14 goalWhat " + g, x.where(0, g), -7);

        int[][] due = {{13, 2, 1, 3, 16}, {24, 1, 1, 1, 16}, {35, 4, 1, 6, 16}, {39, 5, 1, 9, 16}, {40, 2, 1, 2, 8},
            {50, 2, 1, 3, 16}, {51, 19, 1, 19, 16}};
        for (int[] d : due) {
            ThreePoints y = new ThreePoints();
            y.vehicle(d[0], 20);
            where(y, 0, d[1], d[2], d[3], d[4]);
        }
        ThreePoints z = new ThreePoints();
        z.set(0, 8);
        z.vehicle(0, 4);
        where(z, 0, -1, -1, -1, -1);
    }

    private static void whereByWear() {
        ThreePoints x = new ThreePoints();
        x.vehicle(0, 20);
        Due.law(x, "clears 1 ; wears 9 - (heading = 0 and place = 30) * 9 ; sure 1 ;");
        Due.is("14 where the first STEP wears nothing", x.where(0, 10), 30);
        Due.is("14 the seven others do", x.where(0, 11), 63);
        Due.law(x, "clears 1 ; wears (heading = 0) * (place - 12) * (place - 12) + 1 ; sure 1 ;");
        Due.is("14 where it wears least", x.where(0, 10), 12);
        Due.is("14 eight STEPS", x.where(0, 11), 8);
        // a CART turns close to the walls, at PLACE 0 and at WIDTH, too
        ThreePoints c = new ThreePoints();
        c.vehicle(20, 20);
        Due.law(c, "clears 0 ; wears 1 + steers ; sure 1 ;");
        where(c, 0, 0, 1, 0, 16);
        Due.law(c, "clears 0 ; wears 2 - (place = width and heading = 0) * 2 ; sure 1 ;");
        where(c, 0, 0, 1, 40, 14);
        Due.law(c, "clears 0 ; wears 2 - (place = 0 and heading = 0) * 2 ; sure 1 ;");
        where(c, 0, 0, 1, 0, 14);
        ThreePoints w = new ThreePoints();
        w.set(0, 60);
        w.vehicle(20, 30);
        Due.law(w, "clears 0 ; wears 2 - (place = width and heading = 0) * 2 ; sure 1 ;");
        where(w, 0, 0, 1, 60, 14);
        // the lane is too narrow for it with HEADING 0, though not with others
        ThreePoints y = new ThreePoints();
        y.set(0, 17);
        y.vehicle(0, 8);
        Due.law(y, "clears (heading = 0) * 9 ; wears 1 ; sure 1 ;");
        Due.isTrue("14 it could from where it is", y.turned(0, 0) > 0);
        Due.is("14 but FITS nowhere to begin", y.where(0, 0), -1);
        Due.is("14 but FITS nowhere to begin", y.where(0, 1), -1);
    }

    private static void narrow(int kindMore, int... due) {
        ThreePoints x = new ThreePoints();
        x.vehicle(kindMore, 20);
        int[] mosts = {1, 2, 3, 4, 5, 9, 99};
        for (int i = 0; i < due.length; i++) {
            Due.is("15 " + kindMore + " by " + mosts[i], x.narrow(0, mosts[i]), due[i]);
        }
        x.drive(0, 1, 1);
        x.drive(0, 1, 0);
        Due.is("15 wherever it is", x.narrow(0, 3), due[2]);
    }

    private static void narrow() {
        // by one POINT forward down to 2, and up to 21: in 22
        narrow(0, 22, 17, 15, 14, 14, 14, 14);
        narrow(13, 24, 19, 18, 17, 17, 17, 17);
        narrow(24, 20, 15, 14, 12, 12, 12, 12);
        narrow(35, 28, 28, 25, 25, 24, 24, 24);
        narrow(39, 34, 34, 33, 33, 32, 32, 32);
        narrow(40, 15, 11, 11, 11, 11, 11, 11);
        narrow(50, 37, 22, 19, 18, 17, 15, 15);
        narrow(51, 38, 22, 20, 18, 18, 15, 15);
        ThreePoints x = new ThreePoints();
        Due.is("15 no VEHICLE", x.narrow(0, 1), -5);
        x.vehicle(0, 20);
        for (int v : BAD_VEHICLES) Due.is("15 v ahead of most " + v, x.narrow(v, 0), -5);
        for (int most : new int[] {0, 100, -1, MIN, MAX}) Due.is("15 most " + most, x.narrow(0, most), -7);
    }

    private static void narrowUsesWidth() {
        ThreePoints x = new ThreePoints();
        x.vehicle(0, 20);
        x.set(1, 5);
        Due.isTrue("15 the OPENING stays", x.narrow(0, 4) < 14);
        x.set(1, 0);
        Due.law(x, "clears 9 * (width < 30) ; wears 1 ; sure 1 ;");
        Due.is("15 THE LAW by the WIDTH", x.narrow(0, 99), 30);
        Due.law(x, "clears 0 ; wears 1 ; sure 1 ;");
        Due.is("15 two less by clears 0", x.narrow(0, 1), 20);
        Due.law(x, "clears 9 ; wears 1 ; sure 1 ;");
        Due.is("15 sixteen more by clears 9", x.narrow(0, 1), 38);
        Due.law(x, "clears (heading = 0) * 9 ; wears 1 ; sure 1 ;");
        Due.is("15 it must FIT to begin with", x.narrow(0, 99), 18);
        Due.is("15 THE LANE stays", x.count(1), 40);
    }

    /** By the clears that asks for most, all the lane long, the vehicle that needs most room. */
    private static void widestNarrow() {
        ThreePoints x = new ThreePoints();
        x.vehicle(51, 20);
        Due.law(x, "clears 9 ; wears 1 ; sure 1 ;");
        Due.is("15 the widest", x.narrow(0, 1), 54);
        ThreePoints y = new ThreePoints();
        y.vehicle(40, 20);
        y.set(1, 20);
        Due.law(y, "clears 0 ; wears 1 ; sure 1 ;");
        Due.is("15 the least WIDTH there is", y.narrow(0, 99), 8);
    }

    private static void deepestCut() {
        ThreePoints x = new ThreePoints();
        x.set(0, 14);
        Due.law(x, "clears wall * 9 * (3 < heading and heading < 6) ; wears 1 ; sure 1 ;");
        x.vehicle(19, 9);
        Due.is("16 by two POINTS none", x.cut(0, 2), -1);
        Due.is("16 by three the deepest", x.cut(0, 3), 20);
        Due.is("16 by four one less", x.cut(0, 4), 19);
        x.set(1, 20);
        Due.is("13 three POINTS by the deepest", x.turned(0, 0), 3);
        x.set(1, 19);
        Due.is("13 four POINTS by one less", x.turned(0, 0), 4);
    }

    private static void cut() {
        int[] mosts = {0, 1, 2, 3, 4, 5, 6, 99};
        int[][] due = {
            {8, -1, -1, -1, -1, -1, -1, -1, -1},
            {9, -1, -1, -1, -1, -1, -1, 6, 5},
            {10, -1, -1, -1, -1, 4, 4, 4, 4},
            {11, -1, -1, -1, 5, 3, 3, 3, 3},
            {12, -1, -1, 5, 4, 2, 2, 2, 2},
            {13, -1, -1, 4, 3, 1, 1, 1, 1},
            {14, -1, -1, 3, 1, 0, 0, 0, 0},
            {15, -1, -1, 2, 0, 0, 0, 0, 0},
            {16, -1, -1, 1, 0, 0, 0, 0, 0},
        };
        for (int[] d : due) {
            ThreePoints x = new ThreePoints();
            x.vehicle(0, d[0] / 2);
            x.set(0, d[0]);
            for (int i = 0; i < mosts.length; i++) {
                Due.is("16 WIDTH " + d[0] + " by " + mosts[i], x.cut(0, mosts[i]), d[i + 1]);
            }
            x.set(1, 20);
            Due.is("16 whatever OPENING there is", x.cut(0, 4), d[5]);
            Due.is("3 it stays", x.count(2), 20);
        }
        ThreePoints x = new ThreePoints();
        Due.is("16 no VEHICLE", x.cut(0, 1), -5);
        x.vehicle(0, 20);
        for (int v : BAD_VEHICLES) Due.is("16 v ahead of most " + v, x.cut(v, -1), -5);
        for (int most : new int[] {-1, 100, MIN, MAX}) Due.is("16 most " + most, x.cut(0, most), -7);
    }

    private static void cutFromWhereItIs() {
        ThreePoints x = new ThreePoints();
        x.vehicle(0, 20);
        Due.is("16 by no POINT, from none", x.cut(0, 0), -1);
        Due.is("16 by one", x.cut(0, 1), 0);
        x.drive(0, 0, 0);
        Due.is("16 by no POINT more", x.cut(0, 0), 0);
        x.begin(0, 1);
        Due.is("16 never from the wall", x.cut(0, 99), -1);
    }

    private static void headings() {
        ThreePoints x = new ThreePoints();
        Due.is("17 no VEHICLE", x.headings(0), -5);
        x.vehicle(0, 20);
        x.vehicle(40, 20);
        x.vehicle(0, 1);
        for (int v : new int[] {-1, 3, MIN, MAX}) Due.is("17 v " + v, x.headings(v), -5);
        Due.is("17 all", x.headings(0), 65535);
        Due.is("17 by twos", x.headings(1), 0x5555);
        Due.is("17 its own", x.headings(2), 1);
        int[] due = {0xc007, 0xc007, 0xc007, 0xe00f, 0xe00f, 0xf01f, 0xffff};
        for (int width = 8; width <= 14; width++) {
            ThreePoints y = new ThreePoints();
            y.vehicle(0, width / 2);
            y.set(0, width);
            Due.is("17 WIDTH " + width, y.headings(0), due[width - 8]);
        }
    }

    /** What TURNS to one side only turns forward by it, and back by it the other way round. */
    private static void headingsByOneSide() {
        int[][] due = {{50, 0xe007, 0xe00f, 0xf01f}, {51, 0xc00f, 0xe00f, 0xf01f}};
        for (int[] d : due) {
            for (int i = 0; i < 3; i++) {
                ThreePoints x = new ThreePoints();
                x.vehicle(d[0], (11 + i) / 2);
                x.set(0, 11 + i);
                Due.is("17 " + d[0] + " WIDTH " + (11 + i), x.headings(0), d[i + 1]);
            }
        }
    }

    /** HEADING 8 only at PLACE WIDTH, in 17. */
    private static void atPlaceWidth() {
        ThreePoints x = new ThreePoints();
        x.vehicle(20, 7);
        Due.is("WIDTH", x.set(0, 17), 40);
        Due.law(x, "clears (heading = 8 and place < width) * 9 ; wears 1 ; sure 1 ;");
        turned(x, 0, 2, 0, 8, 0);
        Due.is("17 all", x.headings(0), 65535);
        Due.is("14 by two POINTS", x.where(0, 1), 2);
        Due.is("16 by two POINTS", x.cut(0, 2), 0);
        Due.law(x, "clears (heading = 8) * 9 ; wears 1 ; sure 1 ;");
        turned(x, 0, -1, -1, -1, -1);
        Due.is("17 all but HEADING 8", x.headings(0), 65535 - 256);
    }

    /** HEADING 8 could only be come to from a PLACE below 0. */
    private static void notBelowPlaceZero() {
        ThreePoints x = new ThreePoints();
        x.vehicle(20, 8);
        x.set(0, 17);
        Due.law(x, "clears (heading = 8 and 0 < place or place = 1 and (heading = 7 or heading = 9)) * 9 ; wears 1 ; sure 1 ;");
        Due.is("10 HEADING 7 at PLACE 0", x.fit(0, 7), 1);
        Due.is("10 HEADING 8 at PLACE 0", x.fit(0, 8), 1);
        turned(x, 0, -1, -1, -1, -1);
        Due.is("14 from nowhere", x.where(0, 0), -1);
        Due.is("17 all but HEADING 8", x.headings(0), 65535 - 256);
    }

    /** HEADING 0 only at PLACE 0, in 17, and then nowhere. */
    private static void atPlaceZero() {
        ThreePoints x = new ThreePoints();
        x.vehicle(20, 8);
        Due.is("WIDTH", x.set(0, 17), 40);
        Due.law(x, "clears 0 ; wears 1 ; sure 1 ;");
        Due.is("12 at PLACE 0", x.begin(0, 0), 8);
        Due.is("17 from PLACE 0", x.headings(0), 65535);
        int[][] moves = {{0, 1, 0}, {0, 1, 1}, {0, 1, 4}, {0, 1, 7}, {0, 1, 11}, {1, -1, 8}, {0, 1, 11}, {0, 1, 12}};
        for (int[] m : moves) Due.is("11 a STEP", x.drive(0, m[0], m[1]), m[2]);
        Due.is("11 HEADING", x.told(0, 3), 8);
        Due.law(x, "clears (heading = 0 and 0 < place) * 9 ; wears 1 ; sure 1 ;");
        turned(x, 0, 1, 0, 8, 0);
        Due.is("17 all", x.headings(0), 65535);
        Due.law(x, "clears (heading = 0) * 9 ; wears 1 ; sure 1 ;");
        turned(x, 0, -1, -1, -1, -1);
        Due.is("17 all but one", x.headings(0), 65534);
    }

    private static void best() {
        ThreePoints x = new ThreePoints();
        Due.is("18 none", x.best(0), -1);
        Due.is("18 none", x.best(1), -1);
        x.vehicle(0, 1);
        Due.is("18 none can", x.best(0), -1);
        Due.is("18 none can", x.best(1), -1);
        x.vehicle(0, 20);
        x.vehicle(0, 20);
        Due.is("18 the first of like ones", x.best(0), 1);
        Due.is("18 how many POINTS", x.best(1), 1);
        x.drive(2, 1, 0);
        Due.is("18 the fewest", x.best(0), 2);
        Due.is("18 how many POINTS", x.best(1), 0);
        for (int what : new int[] {-1, 2, MIN, MAX}) Due.is("18 what " + what, x.best(what), -2);

        ThreePoints y = new ThreePoints();
        y.vehicle(39, 20);
        y.vehicle(0, 20);
        Due.is("18 the first of like ones", y.best(0), 0);
        // many POINTS so far are no reason not to be the best
        for (int i = 0; i < 9; i++) y.drive(0, i % 2, 0);
        Due.is("18 POINTS so far", y.told(0, 4), 9);
        Due.is("18 POINTS more", y.best(0), 0);
        Due.is("18 POINTS more", y.best(1), 0);
    }

    private static void nothingChanged() {
        ThreePoints x = new ThreePoints();
        x.vehicle(13, 20);
        x.drive(0, 0, 1);
        x.set(1, 4);
        String ahead = Due.state(x, 0);
        x.turned(0, 0);
        x.turned(0, 11);
        x.where(0, 10);
        x.narrow(0, 3);
        x.cut(0, 3);
        x.headings(0);
        x.best(0);
        Due.same("what is asked changes nothing", Due.state(x, 0), ahead);
        Due.is("what is asked changes nothing", x.count(1), 40);
        Due.is("what is asked changes nothing", x.count(2), 4);
    }
}
