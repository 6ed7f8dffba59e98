/** Promises 28 to 32: sheets, and what lies at a place. */
final class HostTest {
    private static final int MIN = Integer.MIN_VALUE, MAX = Integer.MAX_VALUE;
    private static final int[] BAD_SHEETS = {-1, 4, MIN, MAX};

    public static void main(String[] args) {
        sheets();
        cells();
        lowestBits();
        copies();
        copiesOfItsOwn();
        copiesRefused();
        vehiclesBy();
        vehiclesByFull();
        vehiclesByRefused();
        taken();
        takenRefused();
        Due.end();
    }

    private static void sheets() {
        ThreePoints x = new ThreePoints();
        for (int s : BAD_SHEETS) {
            Due.is("28 SHEET " + s, x.sheet(s, 0, 0), -2);
            Due.is("28 SHEET ahead of n " + s, x.sheet(s, 0, -1), -2);
            Due.is("28 SHEET, missing " + s, x.sheet(s, -1, 0), -2);
        }
        for (int sort : new int[] {-2, 3, MIN, MAX}) {
            Due.is("28 sort " + sort, x.sheet(0, sort, 0), -2);
            Due.is("28 sort ahead of n " + sort, x.sheet(0, sort, -1), -2);
        }
        for (int sort = 0; sort < 3; sort++) {
            for (int n : new int[] {41, 1000, MAX}) Due.is("28 n " + n, x.sheet(0, sort, n), -2);
            for (int n : new int[] {-1, -40, MIN}) Due.is("28 n " + n, x.sheet(0, sort, n), -14);
            Due.is("28 refused, nothing changed", x.cell(0, 0, 0), -11);
        }
        for (int s = 0; s < 4; s++) {
            Due.is("28 the longest", x.sheet(s, s % 3, 40), 1);
            Due.is("28 its last number", x.cell(s, 39, 7), 1);
            Due.is("28 none behind it", x.cell(s, 40, 7), -12);
        }
        for (int n : new int[] {0, -1, 41, MIN, MAX}) {
            Due.is("28 missing", x.sheet(1, -1, n), 1);
            Due.is("28 missing", x.cell(1, 0, 0), -11);
        }
        Due.is("28 the shortest", x.sheet(1, 2, 0), 1);
        Due.is("28 it is there", x.cell(1, 0, 0), -12);
        Due.is("28 the others stay", x.cell(0, 39, 0), 1);
    }

    /** A number of a SHEET, as the PLACE of a VEHICLE tells it that is there for that only. */
    private static int number(ThreePoints x, int s, int sort, int i) {
        x.image();
        x.sheet(3, sort, 2);
        x.copy(s, i, 3, 1, 1);
        int came = x.vehiclesBy(3, sort, 0, 1);
        int place = came == 1 ? x.told(x.count(0) - 1, 2) : -1;
        x.back();
        return place;
    }

    private static void cells() {
        ThreePoints x = new ThreePoints();
        for (int s : BAD_SHEETS) Due.is("29 SHEET " + s, x.cell(s, -1, 0), -2);
        Due.is("29 nothing there", x.cell(0, -1, 0), -11);
        x.sheet(0, 2, 3);
        for (int i : new int[] {-1, 3, 40, MIN, MAX}) Due.is("29 outside " + i, x.cell(0, i, 0), -12);
        Due.is("29 number 0", x.cell(0, 0, 11), 1);
        Due.is("29 number 1", x.cell(0, 1, 12), 1);
        Due.is("29 number 2", x.cell(0, 2, 13), 1);
        for (int i = 0; i < 3; i++) Due.is("29 number " + i, number(x, 0, 2, i), 11 + i);
        x.vehicle(0, 20);
        Due.sheet(x, 0, 0, 1, 1);
        Due.is("29 moves", x.judge(0, 0), -1);
        x.sheet(0, 2, 3);
        Due.is("28 all 0, so no moves", x.judge(0, 0), -2);
        Due.sheet(x, 1, 0, 20);
        Due.is("29 a VEHICLE", x.vehiclesBy(1, 2, 0, 1), 1);
        x.sheet(1, 2, 2);
        Due.is("28 all 0, so none FITS", x.vehiclesBy(1, 2, 0, 1), 0);
    }

    private static void lowestBits() {
        ThreePoints x = new ThreePoints();
        x.vehicle(0, 20);
        // -1 by 8 bits, and by 16
        Due.sheetOf(x, 0, 0, 0, 255, 1);
        Due.is("29 bytes", x.ends(0, 0, 1), 15);
        Due.sheetOf(x, 0, 0, 256, -257, 513);
        Due.is("29 bytes", x.ends(0, 0, 1), 15);
        Due.sheetOf(x, 0, 1, 0, 65535, 1);
        Due.is("29 shorts", x.ends(0, 0, 1), 15);
        Due.sheetOf(x, 0, 1, 65536, 131071, 1 - 65536);
        Due.is("29 shorts", x.ends(0, 0, 1), 15);
        Due.sheetOf(x, 0, 1, 0, 255, 1);
        Due.is("29 shorts are longer than bytes", x.judge(0, 0), -2);
        Due.sheetOf(x, 0, 2, 0, 65535, 1);
        Due.is("29 ints stay as they are", x.judge(0, 0), -2);
        Due.sheetOf(x, 0, 2, 65536, 0, 1);
        Due.is("29 ints stay as they are", x.judge(0, 0), -2);
    }

    private static void copies() {
        for (int sort = 0; sort < 3; sort++) {
            ThreePoints x = new ThreePoints();
            Due.sheetOf(x, 0, sort, 11, 12, 13, 14);
            Due.sheetOf(x, 1, sort, 21, 22, 23);
            Due.is("30 two of them", x.copy(0, 1, 1, 1, 2), 2);
            int[] due = {21, 12, 13};
            for (int i = 0; i < 3; i++) Due.is("30 of sort " + sort, number(x, 1, sort, i), due[i]);
            for (int i = 0; i < 4; i++) Due.is("30 these stay", number(x, 0, sort, i), 11 + i);
            Due.is("30 none", x.copy(0, 4, 1, 3, 0), 0);
            Due.is("30 three", x.copy(1, 0, 0, 0, 3), 3);
            Due.is("30 three came", number(x, 0, sort, 0), 21);
        }
    }

    private static void copiesOfItsOwn() {
        ThreePoints x = new ThreePoints();
        Due.sheet(x, 0, 11, 12, 13, 14, 15);
        Due.is("30 up", x.copy(0, 0, 0, 1, 4), 4);
        int[] up = {11, 11, 12, 13, 14};
        for (int i = 0; i < 5; i++) Due.is("30 as they were", number(x, 0, 2, i), up[i]);
        Due.sheet(x, 0, 11, 12, 13, 14, 15);
        Due.is("30 down", x.copy(0, 2, 0, 1, 3), 3);
        int[] down = {11, 13, 14, 15, 15};
        for (int i = 0; i < 5; i++) Due.is("30 as they were", number(x, 0, 2, i), down[i]);
        Due.is("30 where they are", x.copy(0, 0, 0, 0, 5), 5);
    }

    private static void copiesRefused() {
        ThreePoints x = new ThreePoints();
        x.sheet(0, 2, 5);
        x.sheet(1, 1, 5);
        for (int s : BAD_SHEETS) {
            Due.is("30 SHEET " + s, x.copy(s, -1, 2, -1, -1), -2);
            Due.is("30 other SHEET " + s, x.copy(2, -1, s, -1, -1), -2);
        }
        Due.is("30 nothing there", x.copy(0, -1, 2, -1, -1), -11);
        Due.is("30 nothing there", x.copy(2, -1, 0, -1, -1), -11);
        Due.is("30 unlike sorts", x.copy(0, -1, 1, -1, -1), -13);
        x.sheet(1, 2, 3);
        int[][] outside = {{-1, 0, 1}, {0, -1, 1}, {0, 0, -1}, {0, 0, 4}, {3, 0, 3}, {0, 1, 3}, {6, 0, 0}, {0, 4, 0},
            {MIN, 0, 1}, {0, MIN, 1}, {0, 0, MIN}, {MAX, 0, MAX}, {0, MAX, MAX}, {1, 1, MAX}, {MAX, MAX, MAX}, {MAX, 0, 1}};
        for (int[] o : outside) Due.is("30 outside " + o[0] + " " + o[1] + " " + o[2], x.copy(0, o[0], 1, o[1], o[2]), -12);
        Due.is("30 just inside", x.copy(0, 2, 1, 0, 3), 3);
        Due.is("30 just inside", x.copy(0, 5, 1, 3, 0), 0);
    }

    private static void vehiclesBy() {
        ThreePoints x = new ThreePoints();
        Due.sheet(x, 0, 99, 11, 20, 60, 20, 22, 0, 34, 21, 5);
        Due.is("31 none", x.vehiclesBy(0, 2, 1, 0), 0);
        Due.is("31 two of four", x.vehiclesBy(0, 2, 1, 4), 2);
        Due.same("31 the first", Due.state(x, 0), "1 1 20 0 0 0 -1 6 4");
        Due.same("31 the second", Due.state(x, 1), "3 4 21 0 0 0 -1 9 8");
        Due.is("31 outside", x.vehiclesBy(0, 2, 7, 2), -12);
        Due.is("31 what stood ahead came", x.count(0), 3);
        Due.is("31 outside", x.vehiclesBy(0, 2, 9, 1), -12);
        Due.is("31 outside", x.vehiclesBy(0, 2, 10, 1), -12);
        Due.is("31 none came", x.count(0), 3);
        for (int at : new int[] {-1, -2, 10, MIN, MAX, MAX - 1}) Due.is("31 outside " + at, x.vehiclesBy(0, 2, at, 1), -12);
        for (int at : new int[] {-1, 10, 11, MIN, MAX}) Due.is("31 none, wherever " + at, x.vehiclesBy(0, 2, at, 0), 0);
        for (int sort = 0; sort < 2; sort++) {
            ThreePoints y = new ThreePoints();
            Due.sheetOf(y, 2, sort, 59, 20);
            Due.is("31 of sort " + sort, y.vehiclesBy(2, sort, 0, 1), 1);
            Due.same("31 of sort " + sort, Due.state(y, 0), "5 9 20 0 0 0 -1 5 4");
        }
    }

    private static void vehiclesByFull() {
        ThreePoints x = new ThreePoints();
        x.vehicle(0, 20);
        x.vehicle(0, 20);
        Due.sheet(x, 0, 0, 20, 0, 20, 0, 20);
        Due.is("31 as many as there is room for", x.vehiclesBy(0, 2, 0, 3), 2);
        Due.is("31 FULL, all are left out", x.vehiclesBy(0, 2, 0, 3), 0);
        Due.is("31 FULL, but outside", x.vehiclesBy(0, 2, 0, 4), -12);
        Due.is("31 four", x.count(0), 4);
    }

    private static void vehiclesByRefused() {
        ThreePoints x = new ThreePoints();
        x.sheet(0, 2, 8);
        for (int s : BAD_SHEETS) Due.is("31 SHEET " + s, x.vehiclesBy(s, 2, -1, 1), -2);
        for (int sort : new int[] {-1, 3, MIN, MAX}) Due.is("31 sort " + sort, x.vehiclesBy(1, sort, -1, 1), -2);
        for (int n : new int[] {-1, 5, MIN, MAX}) Due.is("31 n " + n, x.vehiclesBy(1, 2, -1, n), -2);
        Due.is("31 nothing there", x.vehiclesBy(1, 2, -1, 1), -11);
        Due.is("31 of another sort", x.vehiclesBy(0, 1, -1, 1), -13);
        Due.is("31 of another sort", x.vehiclesBy(0, 0, -1, 1), -13);
        Due.is("31 outside", x.vehiclesBy(0, 2, -1, 1), -12);
    }

    private static void taken() {
        int[][] are = {{0}, {1, 0}, {2, 0}, {3, 1, 0}, {4, 2, 0}, {5, 0}};
        for (int kind = 0; kind < 6; kind++) {
            ThreePoints x = new ThreePoints();
            x.vehicle(9, 20);
            x.vehicle(10 * kind + 3, 20);
            boolean[] is = new boolean[7];
            for (int k : are[kind]) is[k] = true;
            for (int as = 0; as < 7; as++) {
                Due.is("32 KIND " + kind + " taken for " + as, x.taken(1, as), is[as] ? 1 : -13);
            }
        }
        int[] across = {100, 103, 106, 107, 108, 107, 106, 103, 100, 97, 94, 93, 92, 93, 94, 97};
        ThreePoints x = new ThreePoints();
        for (int h = 0; h < 16; h++) {
            Due.is("32 HEADING " + h, x.taken(4 + h, 6), across[h]);
            for (int kind = 0; kind < 6; kind++) Due.is("32 no VEHICLE", x.taken(4 + h, kind), -13);
        }
    }

    private static void takenRefused() {
        ThreePoints x = new ThreePoints();
        for (int kind : new int[] {-1, 7, MIN, MAX}) {
            Due.is("32 kind ahead of i " + kind, x.taken(-1, kind), -2);
            Due.is("32 kind " + kind, x.taken(4, kind), -2);
        }
        for (int i : new int[] {-1, 20, MIN, MAX}) Due.is("32 i " + i, x.taken(i, 0), -12);
        x.vehicle(0, 20);
        for (int i = 1; i < 4; i++) {
            Due.is("32 nothing lies there", x.taken(i, 0), -11);
            Due.is("32 nothing, ahead of another KIND", x.taken(i, 6), -11);
        }
        Due.is("32 a VEHICLE is no HEADING", x.taken(0, 6), -13);
        Due.is("32 the last HEADING", x.taken(19, 6), 97);
    }
}
