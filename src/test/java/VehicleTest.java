/** Promises 8 to 12: vehicles, where they fit, what a step does. */
final class VehicleTest {
    private static final int MIN = Integer.MIN_VALUE, MAX = Integer.MAX_VALUE;

    public static void main(String[] args) {
        vehicles();
        vehiclesFit();
        told();
        frontsAndBacks();
        fitsRefused();
        fitsOfVan();
        fitsOfLong();
        fitsByOpening();
        fitsByLaw();
        turns();
        goRound();
        places();
        drives();
        drivesRefused();
        drivesOutOfTheLane();
        clearsDoesNotSteer();
        wearsByLaw();
        mostWear();
        begins();
        Due.end();
    }

    private static void vehicles() {
        ThreePoints x = new ThreePoints();
        for (int km : new int[] {-1, 60, 100, MIN, MAX}) Due.is("8 kindMore " + km, x.vehicle(km, 20), -2);
        for (int at : new int[] {-1, 41, MIN, MAX}) Due.is("8 at " + at, x.vehicle(0, at), -2);
        Due.is("8 BAD ahead of STATE", x.vehicle(60, 0), -2);
        Due.is("8 it doesn't FIT", x.vehicle(0, 0), -3);
        Due.is("8 it doesn't FIT", x.vehicle(0, 40), -3);
        Due.is("8 none came", x.count(0), 0);
        Due.is("8 the first", x.vehicle(59, 1), 0);
        Due.is("8 the second", x.vehicle(0, 39), 1);
        Due.is("8 the third", x.vehicle(34, 20), 2);
        Due.is("8 the fourth", x.vehicle(21, 20), 3);
        Due.is("8 FULL", x.vehicle(0, 20), -4);
        Due.is("8 FULL ahead of STATE", x.vehicle(0, 0), -4);
        Due.is("8 BAD ahead of FULL", x.vehicle(0, 41), -2);
        Due.is("8 four came", x.count(0), 4);
        Due.same("8 as told", Due.state(x, 0), "5 9 1 0 0 0 -1 5 4");
        Due.same("8 as told", Due.state(x, 1), "0 0 39 0 0 0 -1 5 4");
        Due.same("8 as told", Due.state(x, 2), "3 4 20 0 0 0 -1 9 8");
        Due.same("8 as told", Due.state(x, 3), "2 1 20 0 0 0 -1 5 2");
    }

    private static void vehiclesFit() {
        ThreePoints x = new ThreePoints();
        x.set(0, 8);
        Due.is("8 outside a narrow lane", x.vehicle(0, 9), -2);
        Due.is("8 too near its far wall", x.vehicle(0, 8), -3);
        Due.is("8 near enough", x.vehicle(0, 7), 0);
        Due.law(x, "clears more ; wears 1 ; sure 1 ;");
        Due.is("8 by THE LAW, with its MORE", x.vehicle(0, 8), 1);
        Due.is("8 by THE LAW, with its MORE", x.vehicle(3, 6), -3);
        Due.is("8 by THE LAW, with its MORE", x.vehicle(3, 5), 2);
    }

    private static void told() {
        ThreePoints x = new ThreePoints();
        Due.is("9 no VEHICLE", x.told(0, 0), -5);
        x.vehicle(13, 20);
        x.drive(0, 0, 1);
        x.drive(0, 0, 1);
        x.drive(0, 1, 0);
        Due.same("9 behind three STEPS", Due.state(x, 0), "1 3 18 2 2 5 1 8 4");
        x.drive(0, 0, -1);
        Due.same("9 behind four", Due.state(x, 0), "1 3 21 1 3 7 0 8 4");
        for (int v : new int[] {-1, 1, 4, MIN, MAX}) {
            Due.is("9 v " + v, x.told(v, 0), -5);
            Due.is("9 v ahead of what " + v, x.told(v, 9), -5);
        }
        for (int what : new int[] {-1, 9, MIN, MAX}) Due.is("9 what " + what, x.told(0, what), -7);
    }

    private static void frontsAndBacks() {
        int[][] due = {
            // FRONT and BACK with MORE 0, 3 and 9
            {5, 4, 5, 4, 5, 4},
            {5, 4, 8, 4, 14, 4},
            {5, 2, 5, 2, 5, 2},
            {5, 4, 8, 7, 14, 13},
            {3, 2, 3, 2, 3, 2},
            {5, 4, 5, 4, 5, 4},
        };
        for (int kind = 0; kind < 6; kind++) {
            ThreePoints x = new ThreePoints();
            x.vehicle(10 * kind, 20);
            x.vehicle(10 * kind + 3, 20);
            x.vehicle(10 * kind + 9, 20);
            for (int v = 0; v < 3; v++) {
                Due.is("9 FRONT of KIND " + kind, x.told(v, 7), due[kind][2 * v]);
                Due.is("9 BACK of KIND " + kind, x.told(v, 8), due[kind][2 * v + 1]);
            }
        }
    }

    private static void fitsRefused() {
        ThreePoints x = new ThreePoints();
        Due.is("10 no VEHICLE", x.fit(0, 0), -5);
        x.vehicle(0, 20);
        for (int v : new int[] {-1, 1, MIN, MAX}) Due.is("10 v ahead of at " + v, x.fit(v, -1), -5);
        for (int at : new int[] {-1, 16, 99, 116, 4016, 4100, MIN, MAX}) Due.is("10 at " + at, x.fit(0, at), -7);
        Due.is("10 the greatest", x.fit(0, 4015), 0);
        x.set(0, 50);
        Due.is("10 a wider lane", x.fit(0, 4900), 1);
        Due.is("10 no wider than so", x.fit(0, 5100), -7);
    }

    /** Whether it FITS just from a least PLACE to a greatest. */
    private static void fits(ThreePoints x, int v, int heading, int least, int greatest) {
        int width = x.count(1);
        for (int place = 0; place <= width; place++) {
            int want = place >= least && place <= greatest ? 1 : 0;
            Due.is("10 at " + place + " with HEADING " + heading, x.fit(v, 100 * place + heading), want);
        }
    }

    private static void fitsOfVan() {
        int[] least = {1, 2, 4, 4, 5, 4, 4, 2, 1, 2, 4, 5, 6, 5, 4, 2};
        int[] greatest = {39, 38, 36, 35, 34, 35, 36, 38, 39, 38, 36, 36, 35, 36, 36, 38};
        // more places than one object may be asked of
        for (int heading = 0; heading < 16; heading++) {
            ThreePoints x = new ThreePoints();
            x.vehicle(0, 20);
            fits(x, 0, heading, least[heading], greatest[heading]);
        }
    }

    private static void fitsOfLong() {
        ThreePoints x = new ThreePoints();
        x.vehicle(39, 20);
        // 14 ahead and 13 behind: with HEADING 1 5 and 4, with HEADING 5 12 and 11
        fits(x, 0, 1, 5, 34);
        fits(x, 0, 9, 6, 35);
        fits(x, 0, 5, 12, 27);
        fits(x, 0, 4, 14, 25);
        fits(x, 0, 12, 15, 26);
        fits(x, 0, 0, 1, 39);
    }

    private static void fitsByOpening() {
        int[] greatest = {39, 38, 36, 38, 37, 38, 36, 38, 39, 38, 36, 39, 38, 39, 36, 38};
        int[] least = {1, 2, 4, 4, 5, 4, 4, 2, 1, 2, 4, 5, 6, 5, 4, 2};
        for (int heading = 0; heading < 16; heading++) {
            ThreePoints x = new ThreePoints();
            x.vehicle(0, 20);
            x.set(1, 3);
            fits(x, 0, heading, least[heading], greatest[heading]);
        }
        ThreePoints y = new ThreePoints();
        y.vehicle(0, 20);
        y.set(1, 20);
        fits(y, 0, 4, 5, 40);
        fits(y, 0, 12, 6, 40);
    }

    private static void fitsByLaw() {
        ThreePoints x = new ThreePoints();
        x.vehicle(0, 20);
        Due.law(x, "clears 2 + wall * 3 + steers ; wears 1 ; sure 1 ;");
        fits(x, 0, 0, 2, 35);
        Due.law(x, "clears heading + (20 < place) ; wears 1 ; sure 1 ;");
        fits(x, 0, 0, 0, 39);
        fits(x, 0, 8, 8, 31);
        Due.law(x, "clears 0 ; wears 1 ; sure 1 ;");
        fits(x, 0, 0, 0, 40);
    }

    private static void turn(int kindMore, int... headings) {
        ThreePoints x = new ThreePoints();
        x.vehicle(kindMore, 20);
        for (int i = 0; i < 6; i++) {
            x.begin(0, 20);
            Due.is("11 a STEP from HEADING 0", x.drive(0, i / 3, i % 3 - 1), 20);
            Due.is("11 " + kindMore + " way " + i / 3 + " WHEEL " + (i % 3 - 1), x.told(0, 3), headings[i]);
        }
    }

    private static void turns() {
        turn(0, 15, 0, 1, 1, 0, 15);
        turn(7, 15, 0, 1, 1, 0, 15);
        turn(12, 15, 0, 1, 1, 0, 15);
        turn(23, 15, 0, 1, 1, 0, 15);
        turn(30, 15, 0, 1, 15, 0, 1);
        turn(34, 15, 0, 1, 15, 0, 1);
        turn(35, 15, 0, 1, 0, 0, 0);
        turn(39, 15, 0, 1, 0, 0, 0);
        turn(40, 14, 0, 2, 2, 0, 14);
        turn(47, 14, 0, 2, 2, 0, 14);
        turn(50, 0, 0, 1, 0, 0, 15);
        turn(54, 0, 0, 1, 0, 0, 15);
        turn(51, 15, 0, 0, 1, 0, 0);
        turn(59, 15, 0, 0, 1, 0, 0);
    }

    /** HEADINGS go round: 15 and 1 more are 0, 0 and 1 less 15. */
    private static void goRound() {
        ThreePoints x = new ThreePoints();
        x.set(0, 60);
        x.vehicle(0, 30);
        for (int i = 1; i <= 17; i++) {
            x.drive(0, 0, 1);
            Due.is("11 round", x.told(0, 3), i % 16);
        }
        x.begin(0, 30);
        for (int i = 1; i <= 17; i++) {
            x.drive(0, 1, 1);
            Due.is("11 round the other way", x.told(0, 3), (32 - i) % 16);
        }
        x.vehicle(40, 30);
        for (int i = 1; i <= 9; i++) {
            x.drive(1, 0, 1);
            Due.is("11 round by twos", x.told(1, 3), 2 * i % 16);
        }
        x.begin(1, 30);
        for (int i = 1; i <= 9; i++) {
            x.drive(1, 0, -1);
            Due.is("11 round by twos the other way", x.told(1, 3), (32 - 2 * i) % 16);
        }
    }

    private static void places() {
        int[] by = {0, 1, 3, 3, 4, 3, 3, 1, 0, -1, -3, -3, -4, -3, -3, -1};
        ThreePoints x = new ThreePoints();
        x.set(0, 60);
        x.vehicle(40, 30);
        x.vehicle(0, 30);
        for (int heading = 0; heading < 16; heading++) {
            x.begin(1, 24);
            for (int i = 0; i < heading; i++) x.drive(1, 0, 1);
            int at = x.told(1, 2);
            Due.is("11 HEADING", x.told(1, 3), heading);
            Due.is("11 forward", x.drive(1, 0, 0), at + by[heading]);
            Due.is("11 and back", x.drive(1, 1, 0), at);
            Due.is("11 and back", x.drive(1, 1, 0), at - by[heading]);
            Due.is("11 straight", x.told(1, 3), heading);
        }
    }

    private static void drives() {
        ThreePoints x = new ThreePoints();
        x.vehicle(0, 4);
        Due.is("11 forward", x.drive(0, 0, 1), 4);
        Due.same("11 the first", Due.state(x, 0), "0 0 4 1 1 2 0 5 4");
        Due.is("11 forward", x.drive(0, 0, 0), 5);
        Due.same("11 of the same way", Due.state(x, 0), "0 0 5 1 1 3 0 5 4");
        Due.is("11 back", x.drive(0, 1, -1), 4);
        Due.same("11 of the other way", Due.state(x, 0), "0 0 4 2 2 5 1 5 4");
        Due.is("11 back", x.drive(0, 1, 0), -3);
        Due.same("11 refused, nothing changed", Due.state(x, 0), "0 0 4 2 2 5 1 5 4");
        Due.is("11 forward", x.drive(0, 0, -1), 7);
        Due.same("11 forward", Due.state(x, 0), "0 0 7 1 3 7 0 5 4");
    }

    private static void drivesRefused() {
        ThreePoints x = new ThreePoints();
        Due.is("11 no VEHICLE", x.drive(0, 0, 0), -5);
        x.vehicle(0, 1);
        x.vehicle(0, 20);
        for (int v : new int[] {-1, 2, MIN, MAX}) Due.is("11 v ahead of way " + v, x.drive(v, 2, 2), -5);
        for (int way : new int[] {-1, 2, MIN, MAX}) Due.is("11 way " + way, x.drive(0, way, 0), -7);
        for (int wheel : new int[] {-2, 2, MIN, MAX}) Due.is("11 WHEEL " + wheel, x.drive(0, 0, wheel), -7);
        Due.is("11 it can't turn at the wall", x.drive(0, 0, 1), -3);
        Due.is("11 it can't turn at the wall", x.drive(0, 1, 1), -3);
        Due.is("11 it can go straight", x.drive(0, 0, 0), 1);
        Due.is("11 the other one can turn", x.drive(1, 0, 1), 20);
    }

    /** In the OPENING its FRONT may stand, but its PLACE is in THE LANE. */
    private static void drivesOutOfTheLane() {
        ThreePoints x = new ThreePoints();
        x.set(1, 20);
        x.vehicle(0, 23);
        for (int i = 0; i < 4; i++) x.drive(0, 0, 1);
        Due.is("11 HEADING", x.told(0, 3), 4);
        int[] due = {34, 38, -3};
        for (int at : due) Due.is("11 forward into the OPENING", x.drive(0, 0, 0), at);
        Due.is("11 at 38", x.told(0, 2), 38);
        x.begin(0, 25);
        for (int i = 0; i < 4; i++) x.drive(0, 0, 1);
        for (int at : new int[] {36, 40, -3}) Due.is("11 PLACE WIDTH is in THE LANE", x.drive(0, 0, 0), at);
        Due.is("10 PLACE WIDTH is in THE LANE", x.fit(0, 4004), 1);

        // with HEADING 12 its BACK is in the OPENING
        x.begin(0, 35);
        for (int i = 0; i < 4; i++) x.drive(0, 0, -1);
        for (int at : new int[] {32, 36, 40, -3}) Due.is("11 back into the OPENING", x.drive(0, 1, 0), at);

        ThreePoints y = new ThreePoints();
        Due.law(y, "clears 0 ; wears 1 ; sure 1 ;");
        y.vehicle(20, 0);
        Due.is("11 PLACE 0 is in THE LANE", y.drive(0, 0, 1), 0);
        Due.is("11 below it nothing is", y.drive(0, 1, 0), -3);
        Due.is("11 it stays", y.told(0, 2), 0);
    }

    private static void clearsDoesNotSteer() {
        ThreePoints x = new ThreePoints();
        x.vehicle(0, 20);
        Due.law(x, "clears steers * 9 ; wears 1 ; sure 1 ;");
        Due.is("12 at the wall", x.begin(0, 2), 20);
        Due.is("11 of clears steers is 0", x.drive(0, 0, 1), 2);
        Due.is("11 of clears steers is 0", x.drive(0, 0, 0), 3);
        Due.is("7 but as told in asks()", x.asks(0, 0, 200, 1), 9);
    }

    private static void wearsByLaw() {
        ThreePoints x = new ThreePoints();
        x.vehicle(3, 20);
        Due.law(x, "clears 0 ; wears place + heading * 10 + more * 3 + wall * 50 + steers * 5 ; sure 1 ;");
        x.drive(0, 0, 1);
        Due.is("11 of PLACE and HEADING ahead of it", x.told(0, 5), 20 + 9 + 5);
        x.drive(0, 0, 0);
        Due.is("11 of PLACE and HEADING ahead of it", x.told(0, 5), 34 + 20 + 10 + 9);
    }

    private static void mostWear() {
        ThreePoints x = new ThreePoints();
        x.vehicle(0, 20);
        Due.law(x, "clears 0 ; wears 98 ; sure 1 ;");
        for (int i = 0; i < 102; i++) x.drive(0, i % 2, 0);
        Due.is("11 WEAR", x.told(0, 5), 9996);
        Due.is("11 POINTS", x.told(0, 4), 102);
        x.drive(0, 0, 0);
        Due.is("11 WEAR at most", x.told(0, 5), 9999);
        x.drive(0, 0, 0);
        Due.is("11 WEAR at most", x.told(0, 5), 9999);
        Due.is("11 POINTS", x.told(0, 4), 103);
    }

    private static void begins() {
        ThreePoints x = new ThreePoints();
        Due.is("12 no VEHICLE", x.begin(0, 20), -5);
        x.vehicle(0, 20);
        x.vehicle(39, 20);
        for (int i = 0; i < 3; i++) x.drive(0, 0, 1);
        Due.same("12 ahead", Due.state(x, 0), "0 0 24 3 1 6 0 5 4");
        for (int v : new int[] {-1, 2, MIN, MAX}) Due.is("12 v ahead of PLACE " + v, x.begin(v, -1), -5);
        for (int at : new int[] {-1, 41, MIN, MAX}) Due.is("12 PLACE " + at, x.begin(0, at), -7);
        Due.is("12 it doesn't FIT", x.begin(0, 0), -3);
        Due.is("12 it doesn't FIT", x.begin(0, 40), -3);
        Due.same("12 refused, nothing changed", Due.state(x, 0), "0 0 24 3 1 6 0 5 4");
        Due.is("12 where it was", x.begin(0, 39), 24);
        Due.same("12 behind", Due.state(x, 0), "0 0 39 0 0 0 -1 5 4");
        Due.is("12 where it was", x.begin(0, 1), 39);
        Due.same("12 the other one stays", Due.state(x, 1), "3 9 20 0 0 0 -1 14 13");
        x.drive(0, 1, 0);
        Due.is("12 the first way is one POINT", x.told(0, 4), 1);
        Due.law(x, "clears more ; wears 1 ; sure 1 ;");
        x.fit(1, 900);
        Due.is("12 by its own MORE", x.begin(0, 0), 1);
        x.fit(0, 800);
        Due.is("12 by its own MORE", x.begin(1, 8), -3);
    }
}
