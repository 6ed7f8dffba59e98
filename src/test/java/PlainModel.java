import java.math.BigInteger;
import java.util.ArrayDeque;
import java.util.ArrayList;
import java.util.Arrays;
import java.util.HashMap;
import java.util.List;
import java.util.Map;
import java.util.PriorityQueue;
import java.util.regex.Matcher;
import java.util.regex.Pattern;

/** A second ThreePoints, written from the document in another way and without care for speed or room. */
final class PlainModel {
    private static final int[] ACROSS = {0, 3, 6, 7, 8, 7, 6, 3, 0, -3, -6, -7, -8, -7, -6, -3};

    record Where(int place, int heading, int last) {
    }

    record Machine(int kind, int more) {
        int front() {
            return new int[] {5, 5 + more, 5, 5 + more, 3, 5}[kind];
        }

        int back() {
            return new int[] {4, 4, 2, 4 + more, 2, 4}[kind];
        }

        int turn(int way, int w) {
            int stretched = way == 0 ? w : 0 - w;
            if (kind == 3 && way == 1) return more > 4 ? 0 : 0 - stretched;
            if (kind == 4) return stretched + stretched;
            if (kind == 5) {
                boolean even = more % 2 == 0;
                return w > 0 && even || !(w > 0) && !even ? stretched : 0;
            }
            return stretched;
        }

        boolean is(int other) {
            return List.of(List.of(0), List.of(1, 0), List.of(2, 0), List.of(3, 1, 0), List.of(4, 2, 0), List.of(5, 0))
                .get(kind).contains(other);
        }
    }

    /** Everything that decides whether a STEP CAN BE and what it wears. */
    record World(int width, int opening, Law law, Machine machine) {
        int ask(int part, int place, int heading, int wall, int steers) {
            Map<String, Integer> names = Map.of("more", machine.more(), "wall", wall, "heading", heading,
                "place", place, "width", width, "steers", steers);
            int bound = new int[] {9, 99, 100}[part];
            int says = law.parts().get(part).of(names);
            return says < 0 ? 0 : says > bound ? bound : says;
        }

        boolean fits(int place, int heading) {
            if (place < 0 || place > width) return false;
            int[] points = {place, place + ACROSS[heading] * machine.front() / 8, place - ACROSS[heading] * machine.back() / 8};
            Arrays.sort(points);
            boolean opens = List.of(3, 4, 5, 11, 12, 13).contains(heading);
            return points[0] >= ask(0, place, heading, 0, 0)
                && points[2] <= width + (opens ? opening : 0) - ask(0, place, heading, 1, 0);
        }

        /** Where a STEP leads to; null, if it CAN not BE. */
        Where step(Where from, int way, int w) {
            int half = ACROSS[from.heading()] / 2;
            int place = way == 0 ? from.place() + half : from.place() - half;
            int heading = Math.floorMod(from.heading() + machine.turn(way, w), 16);
            return fits(place, heading) ? new Where(place, heading, way) : null;
        }

        int wear(Where from, int w) {
            return ask(1, from.place(), from.heading(), 0, w == 0 ? 0 : 1);
        }

        int cost(Where from, int goal, int way, int w) {
            return goal == 1 ? wear(from, w) : way == from.last() ? 0 : 1;
        }

        /** The least cost to a HEADING, from there on forward; -1: never. */
        int turned(Where from, int heading, int goal) {
            Map<Where, Integer> done = new HashMap<>();
            record Entry(int cost, Where at) {
            }
            PriorityQueue<Entry> queue = new PriorityQueue<>((a, b) -> a.cost() - b.cost());
            queue.add(new Entry(0, from));
            while (!queue.isEmpty()) {
                Entry e = queue.poll();
                if (e.at().heading() == heading) return e.cost();
                if (done.putIfAbsent(e.at(), e.cost()) != null) continue;
                for (int way = 0; way < 2; way++) {
                    for (int w = -1; w < 2; w++) {
                        Where to = step(e.at(), way, w);
                        if (to != null && !done.containsKey(to)) queue.add(new Entry(e.cost() + cost(e.at(), goal, way, w), to));
                    }
                }
            }
            return -1;
        }

        int first(Where from, int heading, int goal) {
            int best = -1, least = Integer.MAX_VALUE;
            for (int way = 0; way < 2; way++) {
                for (int w = -1; w < 2; w++) {
                    Where to = step(from, way, w);
                    if (to == null) continue;
                    int rest = turned(to, heading, goal);
                    if (rest < 0) continue;
                    int sum = rest + cost(from, goal, way, w);
                    if (sum < least) {
                        least = sum;
                        best = 10 * way + w + 1;
                    }
                }
            }
            return best;
        }
    }

    interface E {
        int of(Map<String, Integer> names);
    }

    record Law(List<E> parts) {
    }

    static final class Fault extends RuntimeException {
        private static final long serialVersionUID = 1;
        final int place;

        Fault(int place) {
            super("at " + place);
            this.place = place;
        }
    }

    /** Reads straight from the bytes; whoever can't go on throws a Fault at the TOKEN ahead. */
    static final class Parser {
        private static final Pattern TOKEN = Pattern.compile("[ \n]*([a-z]+|[0-9]+|[();+*<=-]|$|.)", Pattern.DOTALL);
        private final String text;
        private int start;
        private int end;
        private String token;

        Parser(String text) {
            this.text = text;
            move();
        }

        Law law() {
            List<E> parts = new ArrayList<>();
            for (String key : List.of("clears", "wears", "sure")) {
                need(key);
                parts.add(or(0));
                need(";");
            }
            need("");
            return new Law(parts);
        }

        private void move() {
            Matcher m = TOKEN.matcher(text).region(end, text.length());
            if (!m.lookingAt()) throw new IllegalStateException(text);
            start = m.start(1);
            end = m.end(1);
            token = m.group(1);
        }

        private boolean take(String it) {
            if (!token.equals(it)) return false;
            if (!it.isEmpty()) move();
            return true;
        }

        private void need(String it) {
            if (!take(it)) throw new Fault(start);
        }

        private E or(int open) {
            E e = and(open);
            while (take("or")) {
                E a = e, b = and(open);
                e = names -> a.of(names) != 0 | b.of(names) != 0 ? 1 : 0;
            }
            return e;
        }

        private E and(int open) {
            E e = not(open);
            while (take("and")) {
                E a = e, b = not(open);
                e = names -> a.of(names) != 0 & b.of(names) != 0 ? 1 : 0;
            }
            return e;
        }

        private E not(int open) {
            if (token.equals("not")) {
                if (open == 5) throw new Fault(start);
                move();
                E a = not(open + 1);
                return names -> a.of(names) == 0 ? 1 : 0;
            }
            E a = sum(open);
            if (take("<")) {
                E b = sum(open);
                return names -> a.of(names) < b.of(names) ? 1 : 0;
            }
            if (take("=")) {
                E b = sum(open);
                return names -> a.of(names) == b.of(names) ? 1 : 0;
            }
            return a;
        }

        private E sum(int open) {
            E e = term(open);
            while (token.equals("+") || token.equals("-")) {
                boolean plus = token.equals("+");
                move();
                E a = e, b = term(open);
                e = plus ? names -> a.of(names) + b.of(names) : names -> a.of(names) - b.of(names);
            }
            return e;
        }

        private E term(int open) {
            E e = one(open);
            while (take("*")) {
                E a = e, b = one(open);
                e = names -> a.of(names) * b.of(names);
            }
            return e;
        }

        private E one(int open) {
            if (token.matches("[0-9]{1,4}")) {
                int number = Integer.parseInt(token);
                move();
                return names -> number;
            }
            if (token.matches("more|wall|heading|place|width|steers")) {
                String name = token;
                move();
                return names -> names.get(name);
            }
            if (open == 5 || !token.equals("-") && !token.equals("(")) throw new Fault(start);
            if (take("-")) {
                E a = one(open + 1);
                return names -> 0 - a.of(names);
            }
            move();
            E a = or(open + 1);
            need(")");
            return a;
        }
    }

    /** A VEHICLE, never changed: each STEP makes a new one. */
    record Car(Machine machine, Where at, int points, int wear) {
        Car gone(World world, int way, int w) {
            Where to = world.step(at, way, w);
            if (to == null) return null;
            return new Car(machine, to, Math.min(9999, points + (way == at.last() ? 0 : 1)),
                Math.min(9999, wear + world.wear(at, w)));
        }
    }

    record Image(int width, int opening, int law, List<Car> cars) {
    }

    record Row(int sort, int[] numbers) {
    }

    private int width = 40, opening = 0, law = 0;
    private final List<Car> cars = new ArrayList<>();
    private final List<Law> laws = new ArrayList<>();
    private final StringBuilder tape = new StringBuilder();
    private final Row[] rows = new Row[4];
    private Image image;

    PlainModel() {
        laws.add(new Parser("clears 1 ; wears 1 + steers ; sure 90 ;").law());
    }

    private World world(Machine machine) {
        return new World(width, opening, laws.get(law), machine);
    }

    private World world(int v) {
        return world(cars.get(v).machine());
    }

    private boolean no(int v) {
        return v < 0 || v >= cars.size();
    }

    private static boolean in(int a, int least, int most) {
        return least <= a && a <= most;
    }

    int count(int what) {
        if (!in(what, 0, 5)) return -2;
        return new int[] {cars.size(), width, opening, laws.size(), law, tape.length()}[what];
    }

    int set(int what, int v) {
        if (!in(what, 0, 1)) return -5;
        if (what == 0 ? !in(v, 8, 60) : !in(v, 0, 20)) return -7;
        for (Car car : cars) {
            World then = new World(what == 0 ? v : width, what == 1 ? v : opening, laws.get(law), car.machine());
            if (!then.fits(car.at().place(), car.at().heading())) return -3;
        }
        int was = what == 0 ? width : opening;
        if (what == 0) width = v;
        if (what == 1) opening = v;
        return was;
    }

    int feed(int n, int... bytes) {
        if (!in(n, 1, 5)) return -2;
        for (int b : bytes) if (!in(b, 0, 255)) return -2;
        if (tape.length() + n > 160) return -4;
        for (int i = 0; i < n; i++) tape.append((char) bytes[i]);
        return tape.length();
    }

    int text() {
        if (laws.size() == 6) return -4;
        String all = tape.toString();
        tape.setLength(0);
        try {
            laws.add(new Parser(all).law());
            return laws.size() - 1;
        } catch (Fault fault) {
            return -100 - fault.place;
        }
    }

    int force(int t) {
        if (!in(t, 0, laws.size() - 1)) return -2;
        int was = law;
        law = t;
        return was;
    }

    private boolean noPlaceHeading(int at) {
        return at < 0 || at / 100 > width || at % 100 > 15;
    }

    int asks(int part, int v, int at, int wallSteers) {
        if (!in(part, 0, 2) || no(v) || noPlaceHeading(at) || !List.of(0, 1, 10, 11).contains(wallSteers)) return -2;
        return world(v).ask(part, at / 100, at % 100, wallSteers / 10, wallSteers % 10);
    }

    int vehicle(int kindMore, int at) {
        if (!in(kindMore, 0, 59) || !in(at, 0, width)) return -2;
        if (cars.size() == 4) return -4;
        Machine machine = new Machine(kindMore / 10, kindMore % 10);
        if (!world(machine).fits(at, 0)) return -3;
        cars.add(new Car(machine, new Where(at, 0, -1), 0, 0));
        return cars.size() - 1;
    }

    int told(int v, int what) {
        if (no(v)) return -5;
        if (!in(what, 0, 8)) return -7;
        Car c = cars.get(v);
        return new int[] {c.machine().kind(), c.machine().more(), c.at().place(), c.at().heading(), c.points(),
            c.wear(), c.at().last(), c.machine().front(), c.machine().back()}[what];
    }

    int fit(int v, int at) {
        if (no(v)) return -5;
        if (noPlaceHeading(at)) return -7;
        return world(v).fits(at / 100, at % 100) ? 1 : 0;
    }

    int drive(int v, int way, int steer) {
        if (no(v)) return -5;
        if (!in(way, 0, 1) || !in(steer, -1, 1)) return -7;
        Car then = cars.get(v).gone(world(v), way, steer);
        if (then == null) return -3;
        cars.set(v, then);
        return then.at().place();
    }

    int begin(int v, int at) {
        if (no(v)) return -5;
        if (!in(at, 0, width)) return -7;
        if (!world(v).fits(at, 0)) return -3;
        Car was = cars.set(v, new Car(cars.get(v).machine(), new Where(at, 0, -1), 0, 0));
        return was.at().place();
    }

    int turned(int v, int goalWhat) {
        if (no(v)) return -5;
        if (!List.of(0, 1, 10, 11).contains(goalWhat)) return -7;
        Where at = cars.get(v).at();
        int other = (at.heading() + 8) % 16;
        return goalWhat % 10 == 0 ? world(v).turned(at, other, goalWhat / 10) : world(v).first(at, other, goalWhat / 10);
    }

    int where(int v, int goalWhat) {
        if (no(v)) return -5;
        if (!List.of(0, 1, 10, 11).contains(goalWhat)) return -7;
        int best = -1, least = -1;
        for (int place = width; place >= 0; place--) {
            if (!world(v).fits(place, 0)) continue;
            int cost = world(v).turned(new Where(place, 0, -1), 8, goalWhat / 10);
            if (cost >= 0 && (least < 0 || cost <= least)) {
                least = cost;
                best = place;
            }
        }
        return goalWhat % 10 == 0 ? best : least;
    }

    int narrow(int v, int most) {
        if (no(v)) return -5;
        if (!in(most, 1, 99)) return -7;
        for (int w = 8; w <= 60; w++) {
            World then = new World(w, opening, laws.get(law), cars.get(v).machine());
            if (!then.fits(w / 2, 0)) continue;
            if (in(then.turned(new Where(w / 2, 0, -1), 8, 0), 0, most)) return w;
        }
        return -1;
    }

    int cut(int v, int most) {
        if (no(v)) return -5;
        if (!in(most, 0, 99)) return -7;
        Where at = cars.get(v).at();
        for (int o = 0; o <= 20; o++) {
            World then = new World(width, o, laws.get(law), cars.get(v).machine());
            if (in(then.turned(at, (at.heading() + 8) % 16, 0), 0, most)) return o;
        }
        return -1;
    }

    int headings(int v) {
        if (no(v)) return -5;
        int bits = 0;
        for (int h = 0; h < 16; h++) {
            if (world(v).turned(cars.get(v).at(), h, 0) >= 0) bits += 1 << h;
        }
        return bits;
    }

    int best(int what) {
        if (!in(what, 0, 1)) return -2;
        int best = -1, fewest = -1;
        for (int v = cars.size() - 1; v >= 0; v--) {
            int points = turned(v, 0);
            if (points >= 0 && (fewest < 0 || points <= fewest)) {
                best = v;
                fewest = points;
            }
        }
        return what == 0 ? best : fewest;
    }

    /** 0, if moves are told and there is that VEHICLE. */
    private int refused(int s, int v) {
        if (!in(s, 0, 3)) return -2;
        if (rows[s] == null) return -11;
        int[] n = rows[s].numbers();
        if (n.length % 3 != 0) return -2;
        for (int i = 0; i < n.length; i++) {
            if (i % 3 == 0 && !in(n[i], 0, 1) || i % 3 == 1 && !in(n[i], -1, 1) || i % 3 == 2 && !in(n[i], 1, 30)) return -2;
        }
        return no(v) ? -5 : 0;
    }

    record Told(int row, Car car) {
    }

    private Told moves(int s, Car car, World world) {
        int[] n = rows[s].numbers();
        Car now = car;
        for (int row = 0; row < n.length / 3; row++) {
            for (int i = 0; i < n[3 * row + 2]; i++) {
                Car then = now.gone(world, n[3 * row], n[3 * row + 1]);
                if (then == null) return new Told(row, now);
                now = then;
            }
        }
        return new Told(-1, now);
    }

    int judge(int s, int v) {
        int refused = refused(s, v);
        return refused != 0 ? refused : moves(s, cars.get(v), world(v)).row();
    }

    int ends(int s, int v, int what) {
        int refused = refused(s, v);
        if (refused != 0) return refused;
        if (!in(what, 0, 3)) return -7;
        Car end = moves(s, cars.get(v), world(v)).car();
        return new int[] {end.at().place(), end.at().heading(), end.points(), end.wear()}[what];
    }

    int kinds(int s, int v, int sort) {
        int refused = refused(s, v);
        if (refused != 0) return refused;
        if (!in(sort, 0, 1)) return -7;
        Car car = cars.get(v);
        int bits = 0;
        for (int i = 0; i < (sort == 0 ? 6 : 10); i++) {
            Machine machine = sort == 0 ? new Machine(i, car.machine().more()) : new Machine(car.machine().kind(), i);
            Told told = moves(s, new Car(machine, car.at(), 0, 0), world(machine));
            if (told.row() < 0 && told.car().at().heading() == (car.at().heading() + 8) % 16) bits += 1 << i;
        }
        return bits;
    }

    int widths(int s, int v, int what) {
        int refused = refused(s, v);
        if (refused != 0) return refused;
        if (!in(what, 0, 1)) return -7;
        Car car = cars.get(v);
        List<Integer> all = new ArrayList<>();
        for (int w = 8; w <= 60; w++) {
            World then = new World(w, opening, laws.get(law), car.machine());
            if (then.fits(car.at().place(), car.at().heading()) && moves(s, car, then).row() < 0) all.add(w);
        }
        if (what == 1) return all.size();
        return all.isEmpty() ? -1 : all.get(0);
    }

    int laws(int s, int v) {
        int refused = refused(s, v);
        if (refused != 0) return refused;
        int bits = 0;
        for (int t = 0; t < laws.size(); t++) {
            World then = new World(width, opening, laws.get(t), cars.get(v).machine());
            if (moves(s, cars.get(v), then).row() < 0) bits += 1 << t;
        }
        return bits;
    }

    private Told lots(int seed, int n, int v) {
        BigInteger factor = BigInteger.valueOf(48271), modulus = BigInteger.valueOf(2147483647);
        BigInteger lot = BigInteger.valueOf(seed).add(BigInteger.ONE);
        Car now = cars.get(v);
        for (int i = 0; i < n; i++) {
            lot = lot.multiply(factor).mod(modulus);
            int it = lot.intValueExact();
            int w = it / 2 % 3 - 1;
            Car then = now.gone(world(v), it % 2, w);
            if (then == null && it / 6 % 100 >= world(v).ask(2, now.at().place(), now.at().heading(), 0, w * w)) {
                return new Told(i, now);
            }
            if (then != null) now = then;
        }
        return new Told(-1, now);
    }

    int drawn(int seed, int n, int v, int what) {
        if (no(v)) return -5;
        if (!in(seed, 0, 99999) || !in(n, 0, 60) || !in(what, 0, 2)) return -7;
        Told end = lots(seed, n, v);
        return new int[] {end.row(), end.car().at().place(), end.car().at().heading()}[what];
    }

    long odds(int seed, int stepsSeeds, int v, int part) {
        if (!in(seed, 0, 99999) || stepsSeeds < 0 || stepsSeeds / 100 > 60 || !in(stepsSeeds % 100, 1, 40)) return ThreePoints.NO;
        if (no(v) || !in(part, 0, 1)) return ThreePoints.NO;
        int seeds = stepsSeeds % 100, free = 0;
        for (int i = 0; i < seeds; i++) if (lots(seed + i, stepsSeeds / 100, v).row() < 0) free++;
        int gcd = BigInteger.valueOf(free).gcd(BigInteger.valueOf(seeds)).intValueExact();
        return (part == 0 ? free : seeds) / gcd;
    }

    int image() {
        image = new Image(width, opening, law, List.copyOf(cars));
        return cars.size();
    }

    int back() {
        if (image == null) return -3;
        width = image.width();
        opening = image.opening();
        law = image.law();
        cars.clear();
        cars.addAll(image.cars());
        return cars.size();
    }

    int sheet(int s, int sort, int n) {
        if (!in(s, 0, 3) || !in(sort, -1, 2)) return -2;
        if (sort == -1) {
            rows[s] = null;
            return 1;
        }
        if (n > 40) return -2;
        if (n < 0) return -14;
        rows[s] = new Row(sort, new int[n]);
        return 1;
    }

    int cell(int s, int i, int v) {
        if (!in(s, 0, 3)) return -2;
        if (rows[s] == null) return -11;
        if (i < 0 || i >= rows[s].numbers().length) return -12;
        int bits = new int[] {24, 16, 0}[rows[s].sort()];
        rows[s].numbers()[i] = v << bits >> bits;
        return 1;
    }

    int copy(int s, int i, int other, int j, int n) {
        if (!in(s, 0, 3) || !in(other, 0, 3)) return -2;
        if (rows[s] == null || rows[other] == null) return -11;
        if (rows[s].sort() != rows[other].sort()) return -13;
        if (i < 0 || j < 0 || n < 0) return -12;
        if ((long) i + n > rows[s].numbers().length || (long) j + n > rows[other].numbers().length) return -12;
        int[] as = rows[s].numbers().clone();
        for (int k = 0; k < n; k++) rows[other].numbers()[j + k] = as[i + k];
        return n;
    }

    int vehiclesBy(int s, int sort, int at, int n) {
        if (!in(s, 0, 3) || !in(sort, 0, 2) || !in(n, 0, 4)) return -2;
        if (rows[s] == null) return -11;
        if (rows[s].sort() != sort) return -13;
        ArrayDeque<Integer> came = new ArrayDeque<>();
        int[] numbers = rows[s].numbers();
        for (long k = 0, i = at; k < n; k++, i += 2) {
            if (i < 0 || i + 1 >= numbers.length) return -12;
            int number = vehicle(numbers[(int) i], numbers[(int) i + 1]);
            if (number >= 0) came.add(number);
        }
        return came.size();
    }

    int taken(int i, int kind) {
        if (!in(kind, 0, 6)) return -2;
        if (!in(i, 0, 19)) return -12;
        if (i > 3) return kind == 6 ? ACROSS[i - 4] + 100 : -13;
        if (no(i)) return -11;
        return kind < 6 && cars.get(i).machine().is(kind) ? i : -13;
    }
}
