/** Promises 24 to 27: drives by lots, images. */
final class LotsTest {
    private static final int MIN = Integer.MIN_VALUE, MAX = Integer.MAX_VALUE;

    public static void main(String[] args) {
        firstLots();
        hits();
        hitsBySteers();
        hitsOfTheSecondLot();
        longDrives();
        lastStepHits();
        drawnRefused();
        odds();
        oddsOfForty();
        oddsRefused();
        noImage();
        images();
        imagesOfVehicles();
        imagesOfAll();
        Due.end();
    }

    private static void drawn(ThreePoints x, int seed, int n, int hit, int place, int heading) {
        Due.is("24 SEED " + seed + " HITS in", x.drawn(seed, n, 0, 0), hit);
        Due.is("24 SEED " + seed + " PLACE", x.drawn(seed, n, 0, 1), place);
        Due.is("24 SEED " + seed + " HEADING", x.drawn(seed, n, 0, 2), heading);
    }

    /*
     * The first LOTS of SEEDS 0 .. 5 are 48271 96542 144813 193084 241355 289626: back, forward, back, .. ;
     * by 2 modulo 3, less 1: -1 0 0 1 1 -1; by 6 modulo 100: 45 90 35 80 25 71.
     * The second of SEED 0 is 182605794: forward, -1, 99.
     */
    private static void firstLots() {
        ThreePoints x = new ThreePoints();
        x.vehicle(0, 20);
        int[] headings = {1, 0, 0, 1, 15, 15};
        for (int seed = 0; seed < 6; seed++) drawn(x, seed, 1, -1, 20, headings[seed]);
        drawn(x, 0, 0, -1, 20, 0);
        drawn(x, 0, 2, -1, 21, 0);
        x.drive(0, 0, 1);
        x.drive(0, 0, 1);
        // from 21 with HEADING 2
        int[] placesThen = {18, 24, 18, 24, 18, 24};
        int[] headingsThen = {3, 2, 2, 3, 1, 1};
        for (int seed = 0; seed < 6; seed++) drawn(x, seed, 1, -1, placesThen[seed], headingsThen[seed]);
        Due.same("it is in thought", Due.state(x, 0), "0 0 21 2 1 4 0 5 4");
    }

    private static void hits() {
        // at the wall no STEP to a side CAN BE
        int[] lots = {45, -1, -1, 80, 25, 71};
        for (int seed = 0; seed < 6; seed++) {
            ThreePoints x = new ThreePoints();
            x.vehicle(0, 1);
            drawn(x, seed, 1, -1, 1, 0);
            if (lots[seed] < 0) {
                Due.law(x, "clears 1 ; wears 1 ; sure 0 ;");
                drawn(x, seed, 1, -1, 1, 0);
                continue;
            }
            Due.law(x, "clears 1 ; wears 1 ; sure " + lots[seed] + " ;");
            drawn(x, seed, 1, 0, 1, 0);
            Due.law(x, "clears 1 ; wears 1 ; sure " + (lots[seed] + 1) + " ;");
            drawn(x, seed, 1, -1, 1, 0);
        }
    }

    private static void hitsBySteers() {
        ThreePoints x = new ThreePoints();
        x.vehicle(0, 1);
        Due.law(x, "clears 1 ; wears 1 ; sure 100 - steers * 60 + wall * 60 ;");
        drawn(x, 0, 1, 0, 1, 0);
        Due.law(x, "clears 1 ; wears 1 ; sure 40 + steers * 60 ;");
        drawn(x, 0, 1, -1, 1, 0);
        Due.law(x, "clears 1 ; wears 1 ; sure 45 * steers ;");
        drawn(x, 0, 1, 0, 1, 0);
        drawn(x, 3, 1, 0, 1, 0);
        drawn(x, 4, 1, -1, 1, 0);
        ThreePoints y = new ThreePoints();
        y.vehicle(0, 34);
        y.drive(0, 0, 1);
        y.drive(0, 0, 1);
        // by SEED 1 straight on, 3 toward the wall with HEADING 2
        Due.law(y, "clears 1 ; wears 1 ; sure 95 - steers * 50 ;");
        drawn(y, 1, 1, -1, 35, 2);
        Due.law(y, "clears 1 ; wears 1 ; sure 90 + steers * 50 ;");
        drawn(y, 1, 1, 0, 35, 2);
        Due.law(x, "clears 1 ; wears 1 ; sure 46 * (place = 1 and heading = 0) ;");
        drawn(x, 0, 1, -1, 1, 0);
        // 90 straight on: just no less than sure, and just less, by steers and wall 0
        Due.law(y, "clears 1 ; wears 1 ; sure 90 + steers + wall ;");
        drawn(y, 1, 1, 0, 35, 2);
        Due.law(y, "clears 1 ; wears 1 ; sure 91 - steers - wall ;");
        drawn(y, 1, 1, -1, 35, 2);
        Due.law(y, "clears 1 ; wears 1 ; sure 91 + steers + wall ;");
        drawn(y, 1, 1, -1, 35, 2);
        // 45 to a side
        ThreePoints z = new ThreePoints();
        z.vehicle(0, 1);
        Due.law(z, "clears 1 ; wears 1 ; sure 44 + steers + wall ;");
        drawn(z, 0, 1, 0, 1, 0);
        Due.law(z, "clears 1 ; wears 1 ; sure 45 + steers + wall ;");
        drawn(z, 0, 1, -1, 1, 0);
        Due.law(z, "clears 1 ; wears 1 ; sure 47 - steers - wall ;");
        drawn(z, 0, 1, -1, 1, 0);
        Due.law(z, "clears 1 ; wears 1 ; sure 46 - steers - wall ;");
        drawn(z, 0, 1, 0, 1, 0);
    }

    private static void hitsOfTheSecondLot() {
        ThreePoints x = new ThreePoints();
        x.vehicle(0, 1);
        drawn(x, 0, 1, -1, 1, 0);
        drawn(x, 0, 2, 1, 1, 0);
        drawn(x, 0, 60, 1, 1, 0);
        Due.law(x, "clears 1 ; wears 1 ; sure 100 ;");
        drawn(x, 0, 60, -1, x.drawn(0, 60, 0, 1), x.drawn(0, 60, 0, 2));
    }

    private static void longDrives() {
        ThreePoints x = new ThreePoints();
        x.vehicle(3, 4);
        drawn(x, 7, 30, -1, 17, 11);
        ThreePoints y = new ThreePoints();
        y.vehicle(22, 9);
        drawn(y, 7, 30, -1, 27, 10);
        ThreePoints z = new ThreePoints();
        z.set(0, 60);
        z.vehicle(0, 30);
        drawn(z, 7, 30, -1, 45, 10);
    }

    /** STEPS count from 0, so the last of 60 is 59. */
    private static void lastStepHits() {
        ThreePoints x = new ThreePoints();
        x.vehicle(0, 20);
        Due.law(x, "clears 1 ; wears 1 ; sure 80 ;");
        drawn(x, 23, 60, 59, 5, 2);
        drawn(x, 23, 59, -1, 5, 2);
        odds(x, 23, 6001, 0, 1);
        odds(x, 23, 5901, 1, 1);
        Due.law(x, "clears 1 ; wears 1 ; sure 100 ;");
        Due.is("24 by sure 100 it never HITS", x.drawn(23, 60, 0, 0), -1);
    }

    /** How many of so many seeds HIT in none is counted by drawn(), and the terms are the lowest. */
    private static void oddsOfForty() {
        ThreePoints x = new ThreePoints();
        x.vehicle(0, 1);
        int[] free = new int[41];
        for (int i = 0; i < 40; i++) free[i + 1] = free[i] + (x.drawn(i, 2, 0, 0) == -1 ? 1 : 0);
        Due.is("24 some of forty", free[40], 24);
        for (int many = 1; many <= 40; many++) {
            long above = x.odds(0, 200 + many, 0, 0);
            long below = x.odds(0, 200 + many, 0, 1);
            Due.is("25 of " + many, above * many, free[many] * below);
            Due.isTrue("25 below the line is above 0, of " + many, below > 0 && below <= many);
            for (int d = 2; d <= 40; d++) Due.isTrue("25 in lowest terms", above % d != 0 || below % d != 0);
        }
    }

    private static void drawnRefused() {
        ThreePoints x = new ThreePoints();
        Due.is("24 no VEHICLE", x.drawn(0, 0, 0, 0), -5);
        x.vehicle(0, 20);
        for (int v : new int[] {-1, 1, MIN, MAX}) Due.is("24 v ahead of SEED " + v, x.drawn(-1, 0, v, 0), -5);
        for (int seed : new int[] {-1, 100000, MIN, MAX}) Due.is("24 SEED " + seed, x.drawn(seed, 0, 0, 0), -7);
        for (int n : new int[] {-1, 61, MIN, MAX}) Due.is("24 n " + n, x.drawn(0, n, 0, 0), -7);
        for (int what : new int[] {-1, 3, MIN, MAX}) Due.is("24 what " + what, x.drawn(0, 0, 0, what), -7);
        Due.isTrue("24 the greatest SEED and n", x.drawn(99999, 60, 0, 1) >= 0);
    }

    private static void odds(ThreePoints x, int seed, int stepsSeeds, long above, long below) {
        Due.is("25 above", x.odds(seed, stepsSeeds, 0, 0), above);
        Due.is("25 below", x.odds(seed, stepsSeeds, 0, 1), below);
    }

    private static void odds() {
        ThreePoints x = new ThreePoints();
        x.vehicle(0, 1);
        Due.law(x, "clears 1 ; wears 1 ; sure 45 ;");
        odds(x, 0, 101, 0, 1);
        odds(x, 0, 102, 1, 2);
        odds(x, 0, 103, 2, 3);
        odds(x, 0, 104, 1, 2);
        odds(x, 0, 105, 3, 5);
        odds(x, 0, 106, 1, 2);
        odds(x, 1, 102, 1, 1);
        odds(x, 3, 101, 0, 1);
        odds(x, 0, 40, 1, 1);
        odds(x, 99999, 40, 1, 1);
        int free = 0;
        for (int i = 0; i < 40; i++) if (x.drawn(50 + i, 3, 0, 0) == -1) free++;
        Due.is("25 of forty", 40 * x.odds(50, 340, 0, 0), free * x.odds(50, 340, 0, 1));
        Due.isTrue("25 each 1 more than 99999, too", x.odds(99999, 140, 0, 1) > 0);
        Due.same("it is in thought", Due.state(x, 0), "0 0 1 0 0 0 -1 5 4");
    }

    private static void oddsRefused() {
        ThreePoints x = new ThreePoints();
        Due.is("25 no VEHICLE", x.odds(0, 101, 0, 0), ThreePoints.NO);
        x.vehicle(0, 20);
        for (int v : new int[] {-1, 1, MIN, MAX}) Due.is("25 v " + v, x.odds(0, 101, v, 0), ThreePoints.NO);
        for (int seed : new int[] {-1, 100000, MIN, MAX}) Due.is("25 SEED " + seed, x.odds(seed, 101, 0, 0), ThreePoints.NO);
        for (int part : new int[] {-1, 2, MIN, MAX}) Due.is("25 part " + part, x.odds(0, 101, 0, part), ThreePoints.NO);
        for (int ss : new int[] {0, 100, 41, 99, 6041, 6100, 6101, 6140, -1, -99, -101, MIN, MAX}) {
            Due.is("25 stepsSeeds " + ss, x.odds(0, ss, 0, 0), ThreePoints.NO);
        }
        Due.isTrue("25 the least", x.odds(0, 1, 0, 1) == 1);
        Due.isTrue("25 the greatest", x.odds(99999, 6040, 0, 1) > 0);
    }

    private static void noImage() {
        ThreePoints x = new ThreePoints();
        Due.is("27 no IMAGE", x.back(), -3);
        x.vehicle(0, 20);
        Due.is("27 no IMAGE", x.back(), -3);
        Due.is("27 refused, nothing changed", x.count(0), 1);
    }

    private static void images() {
        ThreePoints x = new ThreePoints();
        x.vehicle(0, 20);
        x.set(0, 50);
        x.set(1, 3);
        Due.text(x, "clears 1 ; wears 5 ; sure 50 ;");
        x.force(1);
        x.drive(0, 0, 1);
        x.drive(0, 1, 1);
        Due.is("26 how many", x.image(), 1);
        String then = Due.state(x, 0);
        x.set(0, 60);
        x.set(1, 20);
        x.force(0);
        Due.text(x, "clears 0 ; wears 0 ; sure 0 ;");
        x.begin(0, 30);
        Due.sheet(x, 0, 1, 2, 3);
        Due.feed(x, "ab");
        Due.is("27 how many", x.back(), 1);
        Due.same("27 the VEHICLE", Due.state(x, 0), then);
        Due.is("27 WIDTH", x.count(1), 50);
        Due.is("27 OPENING", x.count(2), 3);
        Due.is("27 THE LAW", x.count(4), 1);
        Due.is("27 TEXTS are not in it", x.count(3), 3);
        Due.is("27 THE TAPE is not in it", x.count(5), 2);
        Due.is("27 SHEETS are not in it", x.copy(0, 0, 0, 0, 3), 3);
        x.begin(0, 30);
        Due.is("27 once more", x.back(), 1);
        Due.same("27 THE IMAGE stays", Due.state(x, 0), then);
        x.begin(0, 31);
        Due.is("26 another one", x.image(), 1);
        x.begin(0, 32);
        x.back();
        Due.is("27 the last one", x.told(0, 2), 31);
    }

    /** Of all VEHICLES all that it keeps is as it was, and of those that came since nothing stays. */
    private static void imagesOfAll() {
        ThreePoints x = new ThreePoints();
        for (int i = 0; i < 3; i++) {
            x.vehicle(11 * i, 15 + i);
            for (int k = 0; k <= i; k++) x.drive(i, k % 2, 1);
        }
        String[] then = new String[3];
        for (int i = 0; i < 3; i++) then[i] = Due.state(x, i);
        Due.same("26 ahead", then[0] + ", " + then[1] + ", " + then[2],
            "0 0 15 1 1 2 0 5 4, 1 1 15 0 2 4 1 6 4, 2 2 16 1 3 6 0 5 2");
        Due.is("26 three", x.image(), 3);
        x.vehicle(33, 20);
        for (int i = 0; i < 4; i++) {
            x.begin(i, 30);
            x.drive(i, 1, -1);
        }
        Due.is("27 three", x.back(), 3);
        for (int i = 0; i < 3; i++) Due.same("27 number " + i, Due.state(x, i), then[i]);
        Due.is("27 the fourth is none", x.told(3, 0), -5);
        Due.is("27 the fourth is none", x.fit(3, 2000), -5);
        Due.is("27 not even the best", x.best(0), 0);
        Due.is("27 what was told is as then", x.set(0, 40), 40);
    }

    private static void imagesOfVehicles() {
        ThreePoints x = new ThreePoints();
        Due.is("26 none", x.image(), 0);
        x.vehicle(0, 20);
        Due.is("18 it is the best", x.best(0), 0);
        Due.is("27 those that came since are none", x.back(), 0);
        Due.is("18 none is", x.best(0), -1);
        Due.is("18 none is", x.best(1), -1);
        Due.is("27 none", x.count(0), 0);
        Due.is("27 none", x.told(0, 0), -5);
        x.vehicle(11, 20);
        x.vehicle(22, 20);
        Due.is("26 two", x.image(), 2);
        x.vehicle(33, 20);
        x.vehicle(44, 20);
        Due.is("8 FULL", x.vehicle(0, 20), -4);
        Due.is("27 two", x.back(), 2);
        Due.is("8 room again", x.vehicle(55, 21), 2);
        Due.same("8 anew", Due.state(x, 2), "5 5 21 0 0 0 -1 5 4");
        Due.is("27 two", x.back(), 2);
        Due.same("27 those that stay", Due.state(x, 1), "2 2 20 0 0 0 -1 5 2");
        Due.is("32 nothing lies there", x.taken(2, 5), -11);
    }
}
