import java.util.Random;

/** Runs of drawn calls, each answered by the program and by PlainModel: of all promises, right and wrong numbers. */
final class ModelTest {
    private static final int RUNS = Integer.getInteger("runs", 150);
    private static final int CALLS = 512;
    private static final int METHODS = 30;
    private static final String[] ONES = {"0", "1", "2", "3", "9", "07", "50", "9999", "more", "wall", "heading", "place",
        "width", "steers", "place", "heading"};
    private static final String[] ODD = {"(", ")", ";", "not", "and", "or", "x", "10000", "<", "=", "*", "-", "+", "?", "\t",
        "A", "clears", "sure", " ", "\u00e9"};

    private final Random random;
    private final ThreePoints x = new ThreePoints();
    private final PlainModel y = new PlainModel();
    private final int run;
    private int calls;

    private ModelTest(int run) {
        this.run = run;
        random = new Random(run);
    }

    public static void main(String[] args) {
        for (int run = 0; run < RUNS; run++) new ModelTest(run).go();
        Due.end();
    }

    private void go() {
        prepare();
        while (calls < CALLS) call(random.nextInt(METHODS));
    }

    private void same(String call, long got, long want) {
        calls++;
        Due.is("run " + run + " call " + calls + " " + call, got, want);
    }

    /** Most runs start with a lane, some laws and vehicles, so that the rest has something to work on. */
    private void prepare() {
        if (random.nextInt(10) == 0) return;
        if (random.nextInt(2) == 0) set(0, 8 + random.nextInt(random.nextInt(2) == 0 ? 20 : 53));
        if (random.nextInt(2) == 0) set(1, random.nextInt(21));
        for (int i = random.nextInt(4); i > 0; i--) tell(law());
        for (int i = random.nextInt(4); i >= 0; i--) vehicle(random.nextInt(60), random.nextInt(x.count(1) + 1));
    }

    private void set(int what, int v) {
        same("set " + what + " " + v, x.set(what, v), y.set(what, v));
    }

    private void vehicle(int kindMore, int at) {
        same("vehicle " + kindMore + " " + at, x.vehicle(kindMore, at), y.vehicle(kindMore, at));
    }

    private void tell(String law) {
        for (int i = 0; i < law.length(); i += 5) {
            int n = Math.min(5, law.length() - i);
            int[] b = new int[5];
            for (int k = 0; k < n; k++) b[k] = law.charAt(i + k);
            same("feed", x.feed(n, b[0], b[1], b[2], b[3], b[4]), y.feed(n, b));
        }
        same("text of " + law.replace("\n", "\\n"), x.text(), y.text());
    }

    private String law() {
        String law = "clears " + e(1, "0 < heading", "more", "wall + 1", "3 - place", "2 * (7 < place) + 1") + " ; wears "
            + e(2, "1 + steers", "place", "heading + 1", "9 * steers", "width - place") + " ; sure "
            + e(2, "50", "place * 2", "100 - steers * 40", "99", "0") + " ;";
        if (random.nextInt(4) > 0) return law;
        int at = random.nextInt(law.length());
        String odd = ODD[random.nextInt(ODD.length)];
        return law.substring(0, at) + odd + law.substring(random.nextInt(2) == 0 ? at : Math.min(law.length(), at + 1));
    }

    private String e(int depth, String... usual) {
        return random.nextInt(3) > 0 ? usual[random.nextInt(usual.length)] : any(depth);
    }

    private String any(int depth) {
        if (depth == 0) return ONES[random.nextInt(ONES.length)];
        String a = any(depth - 1);
        String b = any(random.nextInt(depth));
        switch (random.nextInt(10)) {
            case 0: return a + " or " + b;
            case 1: return a + " and " + b;
            case 2: return "not " + a;
            case 3: return a + " < " + b;
            case 4: return a + "=" + b;
            case 5: return a + " + " + b;
            case 6: return a + "-" + b;
            case 7: return a + " * " + b;
            case 8: return "- " + a;
            default: return "(" + a + ")";
        }
    }

    /** Mostly from least to most, now and then just outside or far outside. */
    private int number(int least, int most) {
        int sort = random.nextInt(40);
        if (sort == 0) return least - 1;
        if (sort == 1) return most + 1;
        if (sort == 2) return new int[] {Integer.MIN_VALUE, Integer.MAX_VALUE, -100, 1000, 65536}[random.nextInt(5)];
        return least + random.nextInt(most - least + 1);
    }

    private int v() {
        return random.nextInt(8) == 0 ? number(0, 3) : random.nextInt(Math.max(1, x.count(0)));
    }

    private int flags() {
        return random.nextInt(20) == 0 ? number(0, 20) : new int[] {0, 1, 10, 11}[random.nextInt(4)];
    }

    private int at() {
        return random.nextInt(20) == 0 ? number(0, 6100) : 100 * random.nextInt(x.count(1) + 1) + random.nextInt(16);
    }

    private int s() {
        return number(0, random.nextInt(3) == 0 ? 3 : 1);
    }

    private void call(int which) {
        switch (which) {
            case 0: case 1: case 2: case 3: drive(); break;
            case 4: case 5: case 6: moves(); break;
            case 7: law(random.nextInt(12)); break;
            default: small(which); break;
        }
    }

    private void drive() {
        int v = v(), way = number(0, 1), w = number(-1, 1);
        same("drive " + v + " " + way + " " + w, x.drive(v, way, w), y.drive(v, way, w));
        int what = number(0, 8);
        same("told " + v + " " + what, x.told(v, what), y.told(v, what));
    }

    private void law(int which) {
        if (which == 0) tell(law());
        int t = number(0, Math.max(1, x.count(3) - 1));
        same("force " + t, x.force(t), y.force(t));
    }

    private void moves() {
        int s = s(), rows = random.nextInt(4), sort = number(0, 2);
        int size = random.nextInt(15) == 0 ? number(0, 40) : 3 * rows;
        same("sheet " + s + " " + sort + " " + size, x.sheet(s, sort, size), y.sheet(s, sort, size));
        boolean straight = random.nextInt(2) == 0;
        for (int i = 0; i < 3 * rows; i++) {
            int n = i % 3 == 0 ? random.nextInt(2) : i % 3 == 1 ? (straight ? 1 : random.nextInt(3) - 1) : 1 + random.nextInt(9);
            if (random.nextInt(100) == 0) n = number(-1, 31);
            same("cell " + s + " " + i + " " + n, x.cell(s, i, n), y.cell(s, i, n));
        }
        told(s);
    }

    private void told(int s) {
        int v = v(), what = number(0, 3), sort = number(0, 1);
        same("judge", x.judge(s, v), y.judge(s, v));
        same("ends " + what, x.ends(s, v, what), y.ends(s, v, what));
        same("kinds " + sort, x.kinds(s, v, sort), y.kinds(s, v, sort));
        same("widths " + sort, x.widths(s, v, sort), y.widths(s, v, sort));
        same("laws", x.laws(s, v), y.laws(s, v));
    }

    private void small(int which) {
        int v = v(), a = number(0, 1), b = number(0, 99), f = flags(), at = at();
        switch (which) {
            case 8: same("count " + b, x.count(b % 7), y.count(b % 7)); break;
            case 9: set(a, a == 0 ? number(8, 60) : number(0, 20)); break;
            case 10: asks(number(0, 2), v, at, f); break;
            case 11: vehicle(number(0, 59), number(0, x.count(1))); break;
            case 12: same("fit " + v + " " + at, x.fit(v, at), y.fit(v, at)); break;
            case 13: begin(v, number(0, x.count(1))); break;
            case 14: same("turned " + v + " " + f, x.turned(v, f), y.turned(v, f)); break;
            case 15: if (b < 20) same("where " + v + " " + f, x.where(v, f), y.where(v, f)); break;
            case 16: if (b < 20) narrow(v, number(1, b < 18 ? 5 : 99)); break;
            case 17: cut(v, number(0, b < 80 ? 5 : 99)); break;
            case 18: same("headings " + v, x.headings(v), y.headings(v)); break;
            case 19: same("best " + a, x.best(a), y.best(a)); break;
            default: more(which, v); break;
        }
    }

    private void asks(int part, int v, int at, int f) {
        same("asks " + part + " " + v + " " + at + " " + f, x.asks(part, v, at, f), y.asks(part, v, at, f));
    }

    private void begin(int v, int at) {
        same("begin " + v + " " + at, x.begin(v, at), y.begin(v, at));
    }

    private void narrow(int v, int most) {
        same("narrow " + v + " " + most, x.narrow(v, most), y.narrow(v, most));
    }

    private void cut(int v, int most) {
        same("cut " + v + " " + most, x.cut(v, most), y.cut(v, most));
    }

    private void more(int which, int v) {
        switch (which) {
            case 20: case 21: drawn(number(0, 99999), number(0, 60), v, number(0, 2)); break;
            case 22: odds(number(0, 99999), v); break;
            case 23: if (random.nextInt(3) == 0) same("image", x.image(), y.image()); break;
            case 24: if (random.nextInt(3) == 0) same("back", x.back(), y.back()); break;
            case 25: sheet(s(), number(-1, 2), number(0, 40)); break;
            case 26: cell(s(), number(0, 12), random.nextInt(2) == 0 ? number(-1, 30) : random.nextInt()); break;
            case 27: copy(s(), number(0, 6), s(), number(0, 6), number(0, 6)); break;
            case 28: vehiclesBy(s(), number(0, 2), number(0, 6), number(0, 4)); break;
            default: taken(number(0, 19), number(0, 6)); break;
        }
    }

    private void drawn(int seed, int n, int v, int what) {
        same("drawn " + seed + " " + n + " " + v + " " + what, x.drawn(seed, n, v, what), y.drawn(seed, n, v, what));
    }

    private void odds(int seed, int v) {
        int ss = random.nextInt(10) == 0 ? number(0, 6040) : 100 * random.nextInt(61) + 1 + random.nextInt(40);
        int part = number(0, 1);
        same("odds " + seed + " " + ss + " " + v + " " + part, x.odds(seed, ss, v, part), y.odds(seed, ss, v, part));
    }

    private void sheet(int s, int sort, int n) {
        same("sheet " + s + " " + sort + " " + n, x.sheet(s, sort, n), y.sheet(s, sort, n));
    }

    private void cell(int s, int i, int v) {
        same("cell " + s + " " + i + " " + v, x.cell(s, i, v), y.cell(s, i, v));
    }

    private void copy(int s, int i, int other, int j, int n) {
        same("copy " + s + " " + i + " " + other + " " + j + " " + n, x.copy(s, i, other, j, n), y.copy(s, i, other, j, n));
    }

    private void vehiclesBy(int s, int sort, int at, int n) {
        same("vehiclesBy " + s + " " + sort + " " + at + " " + n, x.vehiclesBy(s, sort, at, n), y.vehiclesBy(s, sort, at, n));
    }

    private void taken(int i, int kind) {
        same("taken " + i + " " + kind, x.taken(i, kind), y.taken(i, kind));
    }
}
