import java.util.Arrays;

/** Vehicles that stand across a lane and go forward or back; the words in capitals are those of DOC.md. */
public final class ThreePoints {
    public static final int NONE = -1, BAD = -2, STATE = -3, FULL = -4;
    public static final long NO = -4611686018427387904L;

    /** What the later numbers of a call are answered with, where the document tells them apart. */
    private static final int WRONG_FIRST = -5, WRONG_LATER = -7;
    private static final int MISSING = -11, OUTSIDE = -12, UNLIKE = -13, NEGATIVE = -14;
    /** No refusal is 0, so it can say that there is none. */
    private static final int FINE = 0;

    private static final int MOST_VEHICLES = 4, MOST_TEXTS = 6, SHEETS = 4;
    private static final int LEAST_WIDTH = 8, MOST_WIDTH = 60, MOST_OPENING = 20;
    private static final int HEADINGS = 16, HALF_ROUND = 8;
    private static final int KINDS = 6, MORES = 10, AS_HEADING = 6;
    private static final int MOST_STEPS = 60, MOST_SEED = 99999, MOST_SEEDS = 40;
    private static final int FORWARD = 0, BACK = 1;
    private static final int CLEARS = 0, WEARS = 1, SURE = 2;
    private static final int GOAL_POINTS = 0, GOAL_WEAR = 1;

    private static final int[] ACROSS = {0, 3, 6, 7, 8, 7, 6, 3, 0, -3, -6, -7, -8, -7, -6, -3};

    private final Yard yard = new Yard();
    private final Yard kept = new Yard();
    private boolean hasImage;
    private final Reader reader = new Reader();
    private final Text[] texts = new Text[MOST_TEXTS];
    private int textCount;
    private final Sheet[] sheets = new Sheet[SHEETS];
    private final Ride ride = new Ride();
    private final Search search = new Search();

    public ThreePoints() {
        for (int i = 0; i < MOST_TEXTS; i++) texts[i] = new Text();
        for (int i = 0; i < SHEETS; i++) sheets[i] = new Sheet();
        reader.tape.write("clears 1 ; wears 1 + steers ; sure 90 ;");
        reader.faultOfTape();
        texts[0].become(reader.draft);
        reader.tape.clear();
        textCount = 1;
    }

    // ---- the lane, the law

    public int count(int what) {
        switch (what) {
            case 0: return yard.count;
            case 1: return yard.lane.width;
            case 2: return yard.lane.opening;
            case 3: return textCount;
            case 4: return yard.lane.law;
            case 5: return reader.tape.size;
            default: return BAD;
        }
    }

    public int set(int what, int v) {
        if (!isWithin(what, 0, 1)) return WRONG_FIRST;
        boolean width = what == 0;
        if (width ? !isWithin(v, LEAST_WIDTH, MOST_WIDTH) : !isWithin(v, 0, MOST_OPENING)) return WRONG_LATER;
        for (int i = 0; i < yard.count; i++) {
            think(i);
            if (width) ride.lane.width = v;
            else ride.lane.opening = v;
            if (!ride.fitsNow()) return STATE;
        }
        int was = width ? yard.lane.width : yard.lane.opening;
        if (width) yard.lane.width = v;
        else yard.lane.opening = v;
        return was;
    }

    public int feed(int n, int a, int b, int c, int d, int e) {
        if (!isWithin(n, 1, 5) || !isByte(a) || !isByte(b) || !isByte(c) || !isByte(d) || !isByte(e)) return BAD;
        Tape tape = reader.tape;
        if (tape.size + n > Tape.ROOM) return FULL;
        tape.add(a);
        if (n > 1) tape.add(b);
        if (n > 2) tape.add(c);
        if (n > 3) tape.add(d);
        if (n > 4) tape.add(e);
        return tape.size;
    }

    public int text() {
        if (!isWithin(textCount, 0, MOST_TEXTS - 1)) return FULL;
        int fault = reader.faultOfTape();
        reader.tape.clear();
        if (fault != NONE) return -100 - fault;
        texts[textCount].become(reader.draft);
        textCount++;
        return textCount - 1;
    }

    public int force(int t) {
        if (!isWithin(t, 0, textCount - 1)) return BAD;
        int was = yard.lane.law;
        yard.lane.law = t;
        return was;
    }

    public int asks(int part, int v, int placeHeading, int wallSteers) {
        if (!isWithin(part, CLEARS, SURE) || !isVehicle(v) || !isPlaceHeading(placeHeading)) return BAD;
        if (!isTwoFlags(wallSteers)) return BAD;
        think(v);
        return ride.says(part, placeHeading / 100, placeHeading % 100, wallSteers / 10, wallSteers % 10);
    }

    // ---- vehicles, steps

    public int vehicle(int kindMore, int at) {
        return addVehicle(kindMore, at);
    }

    public int told(int v, int what) {
        if (!isVehicle(v)) return WRONG_FIRST;
        Vehicle it = yard.vehicles[v];
        switch (what) {
            case 0: return it.kind;
            case 1: return it.more;
            case 2: return it.place;
            case 3: return it.heading;
            case 4: return it.points;
            case 5: return it.wear;
            case 6: return it.last;
            case 7: return it.front();
            case 8: return it.behind();
            default: return WRONG_LATER;
        }
    }

    public int fit(int v, int placeHeading) {
        if (!isVehicle(v)) return WRONG_FIRST;
        if (!isPlaceHeading(placeHeading)) return WRONG_LATER;
        think(v);
        return ride.fits(placeHeading / 100, placeHeading % 100) ? 1 : 0;
    }

    public int drive(int v, int way, int steer) {
        if (!isVehicle(v)) return WRONG_FIRST;
        if (!isWithin(way, FORWARD, BACK) || !isWithin(steer, -1, 1)) return WRONG_LATER;
        think(v);
        if (!ride.go(way, steer)) return STATE;
        yard.vehicles[v].become(ride.vehicle);
        return yard.vehicles[v].place;
    }

    public int begin(int v, int at) {
        if (!isVehicle(v)) return WRONG_FIRST;
        if (!isPlace(at)) return WRONG_LATER;
        think(v);
        if (!ride.fits(at, 0)) return STATE;
        int was = yard.vehicles[v].place;
        yard.vehicles[v].startAt(at);
        return was;
    }

    // ---- turned

    public int turned(int v, int goalWhat) {
        if (!isVehicle(v)) return WRONG_FIRST;
        if (!isTwoFlags(goalWhat)) return WRONG_LATER;
        think(v);
        search.toHeading(ride, otherHeading(ride.vehicle.heading), goalWhat / 10);
        int least = search.leastFromNow(ride);
        return goalWhat % 10 == 0 ? least : search.firstStep;
    }

    public int where(int v, int goalWhat) {
        if (!isVehicle(v)) return WRONG_FIRST;
        if (!isTwoFlags(goalWhat)) return WRONG_LATER;
        think(v);
        search.toHeading(ride, HALF_ROUND, goalWhat / 10);
        int best = NONE;
        int least = NONE;
        for (int place = 0; place <= yard.lane.width; place++) {
            if (!ride.fits(place, 0)) continue;
            int cost = search.least(ride, place, 0, NONE);
            if (cost != NONE && (least == NONE || cost < least)) {
                least = cost;
                best = place;
            }
        }
        return goalWhat % 10 == 0 ? best : least;
    }

    public int narrow(int v, int most) {
        if (!isVehicle(v)) return WRONG_FIRST;
        if (!isWithin(most, 1, 99)) return WRONG_LATER;
        think(v);
        for (int width = LEAST_WIDTH; width <= MOST_WIDTH; width++) {
            ride.lane.width = width;
            ride.vehicle.startAt(width / 2);
            if (!ride.fitsNow()) continue;
            search.toHeading(ride, otherHeading(ride.vehicle.heading), GOAL_POINTS);
            if (isWithin(search.leastFromNow(ride), 0, most)) return width;
        }
        return NONE;
    }

    public int cut(int v, int most) {
        if (!isVehicle(v)) return WRONG_FIRST;
        if (!isWithin(most, 0, 99)) return WRONG_LATER;
        think(v);
        for (int opening = 0; opening <= MOST_OPENING; opening++) {
            ride.lane.opening = opening;
            search.toHeading(ride, otherHeading(ride.vehicle.heading), GOAL_POINTS);
            if (isWithin(search.leastFromNow(ride), 0, most)) return opening;
        }
        return NONE;
    }

    public int headings(int v) {
        if (!isVehicle(v)) return WRONG_FIRST;
        think(v);
        return search.headingsReached(ride);
    }

    public int best(int what) {
        if (!isWithin(what, 0, 1)) return BAD;
        int best = NONE;
        int fewest = NONE;
        for (int v = 0; v < yard.count; v++) {
            think(v);
            search.toHeading(ride, otherHeading(ride.vehicle.heading), GOAL_POINTS);
            int points = search.leastFromNow(ride);
            if (points != NONE && (fewest == NONE || points < fewest)) {
                fewest = points;
                best = v;
            }
        }
        return what == 0 ? best : fewest;
    }

    // ---- told moves

    public int judge(int s, int v) {
        int refusal = refusalOfMoves(s, v);
        if (refusal != FINE) return refusal;
        think(v);
        return ride.through(sheets[s]);
    }

    public int ends(int s, int v, int what) {
        int refusal = refusalOfMoves(s, v);
        if (refusal != FINE) return refusal;
        think(v);
        ride.through(sheets[s]);
        switch (what) {
            case 0: return ride.vehicle.place;
            case 1: return ride.vehicle.heading;
            case 2: return ride.vehicle.points;
            case 3: return ride.vehicle.wear;
            default: return WRONG_LATER;
        }
    }

    public int kinds(int s, int v, int sort) {
        int refusal = refusalOfMoves(s, v);
        if (refusal != FINE) return refusal;
        if (!isWithin(sort, 0, 1)) return WRONG_LATER;
        int other = otherHeading(yard.vehicles[v].heading);
        int choices = sort == 0 ? KINDS : MORES;
        int bits = 0;
        for (int i = 0; i < choices; i++) {
            think(v);
            if (sort == 0) ride.vehicle.kind = i;
            else ride.vehicle.more = i;
            if (ride.through(sheets[s]) == NONE && ride.vehicle.heading == other) bits |= 1 << i;
        }
        return bits;
    }

    public int widths(int s, int v, int what) {
        int refusal = refusalOfMoves(s, v);
        if (refusal != FINE) return refusal;
        if (!isWithin(what, 0, 1)) return WRONG_LATER;
        int least = NONE;
        int many = 0;
        for (int width = LEAST_WIDTH; width <= MOST_WIDTH; width++) {
            think(v);
            ride.lane.width = width;
            if (!ride.fitsNow() || ride.through(sheets[s]) != NONE) continue;
            if (least == NONE) least = width;
            many++;
        }
        return what == 0 ? least : many;
    }

    public int laws(int s, int v) {
        int refusal = refusalOfMoves(s, v);
        if (refusal != FINE) return refusal;
        int bits = 0;
        for (int t = 0; t < textCount && t < MOST_TEXTS; t++) {
            think(v);
            ride.law = texts[t];
            if (ride.through(sheets[s]) == NONE) bits |= 1 << t;
        }
        return bits;
    }

    // ---- drives by lots

    public int drawn(int seed, int n, int v, int what) {
        if (!isVehicle(v)) return WRONG_FIRST;
        if (!isWithin(seed, 0, MOST_SEED) || !isWithin(n, 0, MOST_STEPS)) return WRONG_LATER;
        if (!isWithin(what, 0, 2)) return WRONG_LATER;
        think(v);
        int hit = ride.byLots(seed, n);
        if (what == 0) return hit;
        return what == 1 ? ride.vehicle.place : ride.vehicle.heading;
    }

    public long odds(int seed, int stepsSeeds, int v, int part) {
        if (!isWithin(seed, 0, MOST_SEED) || !isVehicle(v) || !isWithin(part, 0, 1)) return NO;
        if (stepsSeeds < 0) return NO;
        int steps = stepsSeeds / 100;
        int seeds = stepsSeeds % 100;
        if (!isWithin(steps, 0, MOST_STEPS) || !isWithin(seeds, 1, MOST_SEEDS)) return NO;
        int without = 0;
        for (int i = 0; i < seeds; i++) {
            think(v);
            if (ride.byLots(seed + i, steps) == NONE) without++;
        }
        return part == 0 ? inLowestTerms(without, seeds) : inLowestTerms(seeds, without);
    }

    public int image() {
        kept.become(yard);
        hasImage = true;
        return yard.count;
    }

    public int back() {
        if (!hasImage) return STATE;
        yard.become(kept);
        return yard.count;
    }

    // ---- the host

    public int sheet(int s, int sort, int n) {
        if (!isSheet(s) || !isWithin(sort, Sheet.NO_SORT, Sheet.INTS)) return BAD;
        if (sort != Sheet.NO_SORT) {
            if (n > Sheet.ROOM) return BAD;
            if (n < 0) return NEGATIVE;
        }
        sheets[s].renew(sort, n);
        return 1;
    }

    public int cell(int s, int i, int v) {
        if (!isSheet(s)) return BAD;
        if (sheets[s].isMissing()) return MISSING;
        if (!sheets[s].has(i)) return OUTSIDE;
        sheets[s].put(i, v);
        return 1;
    }

    public int copy(int s, int i, int other, int j, int n) {
        if (!isSheet(s) || !isSheet(other)) return BAD;
        Sheet from = sheets[s];
        Sheet to = sheets[other];
        if (from.isMissing() || to.isMissing()) return MISSING;
        if (from.sort != to.sort) return UNLIKE;
        if (!from.hasRow(i, n) || !to.hasRow(j, n)) return OUTSIDE;
        System.arraycopy(from.numbers, i, to.numbers, j, n);
        return n;
    }

    public int vehiclesBy(int s, int sort, int at, int n) {
        if (!isSheet(s) || !isWithin(sort, Sheet.BYTES, Sheet.INTS) || !isWithin(n, 0, MOST_VEHICLES)) return BAD;
        Sheet from = sheets[s];
        if (from.isMissing()) return MISSING;
        if (from.sort != sort) return UNLIKE;
        int came = 0;
        for (int i = 0; i < n; i++) {
            int pair = at + 2 * i;
            if (!from.hasRow(pair, 2)) return OUTSIDE;
            if (addVehicle(from.get(pair), from.get(pair + 1)) >= 0) came++;
        }
        return came;
    }

    public int taken(int i, int kind) {
        if (!isWithin(kind, 0, AS_HEADING)) return BAD;
        if (!isWithin(i, 0, MOST_VEHICLES + HEADINGS - 1)) return OUTSIDE;
        if (i >= MOST_VEHICLES) return kind == AS_HEADING ? across(i - MOST_VEHICLES) + 100 : UNLIKE;
        if (!isVehicle(i)) return MISSING;
        return yard.vehicles[i].isA(kind) ? i : UNLIKE;
    }

    // ---- what the calls share

    private static boolean isWithin(int v, int least, int most) {
        return v >= least && v <= most;
    }

    private static boolean isByte(int v) {
        return isWithin(v, 0, 255);
    }

    private static boolean isTwoFlags(int v) {
        return v == 0 || v == 1 || v == 10 || v == 11;
    }

    private static int across(int heading) {
        return ACROSS[heading & 15];
    }

    private static int otherHeading(int heading) {
        return (heading + HALF_ROUND) & 15;
    }

    /** What a number becomes in lowest terms with another one. */
    private static int inLowestTerms(int number, int other) {
        for (int d = number; d > 1; d--) {
            if (number % d == 0 && other % d == 0) return number / d;
        }
        return number;
    }

    private boolean isVehicle(int v) {
        return v >= 0 && v < yard.count && v < MOST_VEHICLES;
    }

    private static boolean isSheet(int s) {
        return s >= 0 && s < SHEETS;
    }

    private boolean isPlace(int at) {
        return isWithin(at, 0, yard.lane.width);
    }

    private boolean isPlaceHeading(int placeHeading) {
        return placeHeading >= 0 && isPlace(placeHeading / 100) && placeHeading % 100 < HEADINGS;
    }

    /** Whatever is tried is tried on a copy, so that what is only asked changes nothing. */
    private void think(int v) {
        ride.lane.become(yard.lane);
        ride.law = isWithin(yard.lane.law, 0, MOST_TEXTS - 1) ? texts[yard.lane.law] : null;
        if (isVehicle(v)) ride.vehicle.become(yard.vehicles[v]);
    }

    private int addVehicle(int kindMore, int at) {
        if (!isWithin(kindMore, 0, KINDS * 10 - 1) || !isPlace(at)) return BAD;
        if (!isWithin(yard.count, 0, MOST_VEHICLES - 1)) return FULL;
        think(NONE);
        ride.vehicle.kind = kindMore / 10;
        ride.vehicle.more = kindMore % 10;
        ride.vehicle.startAt(at);
        if (!ride.fitsNow()) return STATE;
        yard.vehicles[yard.count].become(ride.vehicle);
        yard.count++;
        return yard.count - 1;
    }

    private int refusalOfMoves(int s, int v) {
        if (!isSheet(s)) return BAD;
        if (sheets[s].isMissing()) return MISSING;
        if (!sheets[s].tellsMoves()) return BAD;
        return isVehicle(v) ? FINE : WRONG_FIRST;
    }

    /** THE LANE, and the number of THE LAW in it. */
    private static final class Lane {
        int width = 40;
        int opening;
        int law;

        void become(Lane from) {
            width = from.width;
            opening = from.opening;
            law = from.law;
        }
    }

    /** A VEHICLE of a KIND. */
    private static final class Vehicle {
        static final int STRETCHED = 1, CART = 2, TRAILER = 3, BARROW = 4, WORN = 5;
        static final int VAN_FRONT = 5, VAN_BACK = 4, MOST_TOLD = 9999;
        /** Of each KIND the one that it is too; -1 of a VAN. */
        private static final int[] ABOVE = {-1, 0, 0, 1, 2, 0};

        int kind;
        int more;
        int place;
        int heading;
        int points;
        int wear;
        int last = NONE;

        void become(Vehicle from) {
            kind = from.kind;
            more = from.more;
            place = from.place;
            heading = from.heading;
            points = from.points;
            wear = from.wear;
            last = from.last;
        }

        void startAt(int at) {
            place = at;
            heading = 0;
            points = 0;
            wear = 0;
            last = NONE;
        }

        boolean isA(int asked) {
            int k = kind;
            for (int left = KINDS; left > 0 && k >= 0 && k < KINDS; left--) {
                if (k == asked) return true;
                k = ABOVE[k];
            }
            return false;
        }

        int front() {
            switch (kind) {
                case STRETCHED:
                case TRAILER: return VAN_FRONT + more;
                case BARROW: return VAN_FRONT - 2;
                default: return VAN_FRONT;
            }
        }

        int behind() {
            switch (kind) {
                case CART:
                case BARROW: return VAN_BACK / 2;
                case TRAILER: return VAN_BACK + more;
                default: return VAN_BACK;
            }
        }

        int turns(int way, int wheel) {
            int asVan = way == FORWARD ? wheel : -wheel;
            switch (kind) {
                case TRAILER:
                    if (way == FORWARD) return asVan;
                    return more > 4 ? 0 : -asVan;
                case BARROW: return 2 * asVan;
                case WORN: return (wheel > 0) == (more % 2 == 0) ? asVan : 0;
                default: return asVan;
            }
        }

        void stepTo(int at, int heads, int way, int worn) {
            place = at;
            heading = heads;
            wear = Math.min(wear + worn, MOST_TOLD);
            if (way != last) points = Math.min(points + 1, MOST_TOLD);
            last = way;
        }
    }

    /** What AN IMAGE keeps: THE LANE and the VEHICLES in it. */
    private static final class Yard {
        final Lane lane = new Lane();
        final Vehicle[] vehicles = new Vehicle[MOST_VEHICLES];
        int count;

        Yard() {
            for (int i = 0; i < MOST_VEHICLES; i++) vehicles[i] = new Vehicle();
        }

        void become(Yard from) {
            lane.become(from.lane);
            for (int i = 0; i < MOST_VEHICLES; i++) vehicles[i].become(from.vehicles[i]);
            count = from.count;
        }
    }

    /** A TEXT, kept as the code of its three parts, operands ahead of what joins them. */
    private static final class Text {
        /** A code below NAME is a NUMBER; from NAME on it is a NAME, from OR on what joins. */
        static final int NAME = 10000, NAMES = 6, PARTS = 3;
        static final int OR = 20000, AND = 20001, NOT = 20002, LESS = 20003, EQUAL = 20004;
        static final int PLUS = 20005, MINUS = 20006, TIMES = 20007, OPPOSITE = 20008;
        private static final int[] BOUNDS = {9, 99, 100};

        private final int[] code = new int[Tape.ROOM];
        private int size;
        private final int[] partEnds = new int[PARTS];
        private final int[] stack = new int[Tape.ROOM];

        void clear() {
            size = 0;
            Arrays.fill(partEnds, 0);
        }

        void become(Text from) {
            size = from.size;
            System.arraycopy(from.code, 0, code, 0, Tape.ROOM);
            System.arraycopy(from.partEnds, 0, partEnds, 0, PARTS);
        }

        void put(int next) {
            if (size >= code.length) return;
            code[size] = next;
            size++;
        }

        void endPart(int part) {
            if (part >= 0 && part < PARTS) partEnds[part] = size;
        }

        int says(int part, int[] names) {
            if (part < 0 || part >= PARTS) return 0;
            int top = 0;
            for (int i = part == 0 ? 0 : partEnds[part - 1]; i < partEnds[part] && i < code.length; i++) {
                int next = code[i];
                if (next < OR) {
                    if (top >= stack.length) return 0;
                    stack[top] = operand(next, names);
                    top++;
                } else if (next == NOT || next == OPPOSITE) {
                    if (top < 1) return 0;
                    int it = stack[top - 1];
                    stack[top - 1] = next == NOT ? (it == 0 ? 1 : 0) : -it;
                } else {
                    if (top < 2) return 0;
                    stack[top - 2] = joined(next, stack[top - 2], stack[top - 1]);
                    top--;
                }
            }
            return top < 1 ? 0 : Math.max(0, Math.min(stack[top - 1], BOUNDS[part]));
        }

        private static int operand(int next, int[] names) {
            if (next < NAME) return next;
            int name = next - NAME;
            return name < names.length ? names[name] : 0;
        }

        private static int joined(int by, int a, int b) {
            switch (by) {
                case OR: return a != 0 || b != 0 ? 1 : 0;
                case AND: return a != 0 && b != 0 ? 1 : 0;
                case LESS: return a < b ? 1 : 0;
                case EQUAL: return a == b ? 1 : 0;
                case PLUS: return a + b;
                case MINUS: return a - b;
                default: return a * b;
            }
        }
    }

    /** THE TAPE, and the TOKENS that stand on it. */
    private static final class Tape {
        static final int ROOM = 160;
        /** The kinds of TOKENS; that of a SIGN is its byte. */
        static final int CLEARS_WORD = 256, WEARS_WORD = 257, SURE_WORD = 258;
        static final int OR_WORD = 259, AND_WORD = 260, NOT_WORD = 261, NAME_WORD = 262;
        static final int NUMBER = 263, END = 264, WRONG = 265;
        private static final int MOST_DIGITS = 4;

        private final int[] bytes = new int[ROOM];
        int size;
        private final int[] kinds = new int[ROOM];
        private final int[] starts = new int[ROOM];
        /** Of a NUMBER what it is, of a NAME which. */
        private final int[] values = new int[ROOM];
        private int tokens;

        void clear() {
            size = 0;
        }

        void add(int b) {
            if (size >= ROOM) return;
            bytes[size] = b;
            size++;
        }

        void write(String signs) {
            for (int i = 0; i < signs.length(); i++) add(signs.charAt(i));
        }

        int kindOf(int t) {
            return t >= 0 && t < tokens && t < ROOM ? kinds[t] : END;
        }

        int valueOf(int t) {
            return t >= 0 && t < tokens && t < ROOM ? values[t] : 0;
        }

        /** Where a TOKEN starts; behind the last one the text's size. */
        int startOf(int t) {
            return t >= 0 && t < tokens && t < ROOM ? starts[t] : size;
        }

        void split() {
            tokens = 0;
            int at = 0;
            while (at < size && tokens < ROOM) {
                int end = endOfToken(at);
                if (!isBlank(byteAt(at))) {
                    starts[tokens] = at;
                    values[tokens] = isDigit(byteAt(at)) ? numberAt(at, end) : nameAt(at, end);
                    kinds[tokens] = kindAt(at, end);
                    tokens++;
                }
                at = Math.max(end, at + 1);
            }
        }

        private int byteAt(int i) {
            return i >= 0 && i < size && i < ROOM ? bytes[i] : 0;
        }

        private static boolean isBlank(int b) {
            return b == ' ' || b == '\n';
        }

        private static boolean isLetter(int b) {
            return b >= 'a' && b <= 'z';
        }

        private static boolean isDigit(int b) {
            return b >= '0' && b <= '9';
        }

        private int endOfToken(int from) {
            int end = from + 1;
            if (isLetter(byteAt(from))) {
                while (end < size && isLetter(byteAt(end))) end++;
            } else if (isDigit(byteAt(from))) {
                while (end < size && isDigit(byteAt(end))) end++;
            }
            return end;
        }

        private int kindAt(int from, int end) {
            int first = byteAt(from);
            if (isLetter(first)) return wordKindAt(from, end);
            if (isDigit(first)) return end - from > MOST_DIGITS ? WRONG : NUMBER;
            return "();+-*<=".indexOf((char) first) >= 0 ? first : WRONG;
        }

        private int numberAt(int from, int end) {
            int number = 0;
            for (int i = from; i < end; i++) number = number * 10 + byteAt(i) - '0';
            return number;
        }

        private int wordKindAt(int from, int end) {
            if (spells(from, end, "clears")) return CLEARS_WORD;
            if (spells(from, end, "wears")) return WEARS_WORD;
            if (spells(from, end, "sure")) return SURE_WORD;
            if (spells(from, end, "or")) return OR_WORD;
            if (spells(from, end, "and")) return AND_WORD;
            if (spells(from, end, "not")) return NOT_WORD;
            return nameAt(from, end) == NONE ? WRONG : NAME_WORD;
        }

        /** Which of the names that Ride.says() fills; NONE, if it is no NAME. */
        private int nameAt(int from, int end) {
            if (spells(from, end, "more")) return Ride.MORE;
            if (spells(from, end, "wall")) return Ride.WALL;
            if (spells(from, end, "heading")) return Ride.HEADING;
            if (spells(from, end, "place")) return Ride.PLACE;
            if (spells(from, end, "width")) return Ride.WIDTH;
            if (spells(from, end, "steers")) return Ride.STEERS;
            return NONE;
        }

        private boolean spells(int from, int end, String word) {
            if (end - from != word.length()) return false;
            for (int i = 0; i < word.length(); i++) {
                if (byteAt(from + i) != word.charAt(i)) return false;
            }
            return true;
        }
    }

    /** Reads THE TAPE as a TEXT, its TOKENS one by one. */
    private static final class Reader {
        private static final int MOST_OPEN = 5;

        final Tape tape = new Tape();
        /** What has been read so far: a TEXT only if there was no FAULT. */
        final Text draft = new Text();
        private int now;
        private int token;
        /** How many ( , not and - are open; there are never more than MOST_OPEN, so what calls itself ends soon. */
        private int open;

        /** The place of the FAULT; NONE, if there is none. */
        int faultOfTape() {
            tape.split();
            draft.clear();
            open = 0;
            goTo(0);
            boolean right = readPart(Tape.CLEARS_WORD, CLEARS) && readPart(Tape.WEARS_WORD, WEARS)
                && readPart(Tape.SURE_WORD, SURE) && token == Tape.END;
            return right ? NONE : tape.startOf(now);
        }

        private void goTo(int t) {
            now = t;
            token = tape.kindOf(t);
        }

        // Each read..() is false as soon as the TOKEN that it has come to can't stand there.

        private boolean readPart(int word, int part) {
            if (token != word) return false;
            goTo(now + 1);
            if (!readOr()) return false;
            draft.endPart(part);
            if (token != ';') return false;
            goTo(now + 1);
            return true;
        }

        private boolean readOr() {
            if (!readAnd()) return false;
            for (int left = Tape.ROOM; left > 0 && token == Tape.OR_WORD; left--) {
                goTo(now + 1);
                if (!readAnd()) return false;
                draft.put(Text.OR);
            }
            return true;
        }

        private boolean readAnd() {
            if (!readNot()) return false;
            for (int left = Tape.ROOM; left > 0 && token == Tape.AND_WORD; left--) {
                goTo(now + 1);
                if (!readNot()) return false;
                draft.put(Text.AND);
            }
            return true;
        }

        private boolean readNot() {
            if (token != Tape.NOT_WORD) return readComparison();
            if (!mayOpen() || !readNot()) return false;
            open--;
            draft.put(Text.NOT);
            return true;
        }

        private boolean readComparison() {
            if (!readSum()) return false;
            if (token != '<' && token != '=') return true;
            int by = token == '<' ? Text.LESS : Text.EQUAL;
            goTo(now + 1);
            if (!readSum()) return false;
            draft.put(by);
            return true;
        }

        private boolean readSum() {
            if (!readTerm()) return false;
            for (int left = Tape.ROOM; left > 0 && (token == '+' || token == '-'); left--) {
                int by = token == '+' ? Text.PLUS : Text.MINUS;
                goTo(now + 1);
                if (!readTerm()) return false;
                draft.put(by);
            }
            return true;
        }

        private boolean readTerm() {
            if (!readOne()) return false;
            for (int left = Tape.ROOM; left > 0 && token == '*'; left--) {
                goTo(now + 1);
                if (!readOne()) return false;
                draft.put(Text.TIMES);
            }
            return true;
        }

        private boolean readOne() {
            if (token == Tape.NUMBER || token == Tape.NAME_WORD) {
                draft.put(token == Tape.NAME_WORD ? Text.NAME + tape.valueOf(now) : tape.valueOf(now));
                goTo(now + 1);
                return true;
            }
            if (token == '-') {
                if (!mayOpen() || !readOne()) return false;
                open--;
                draft.put(Text.OPPOSITE);
                return true;
            }
            if (token != '(' || !mayOpen() || !readOr() || token != ')') return false;
            open--;
            goTo(now + 1);
            return true;
        }

        /** Goes past a ( , a not or a - , if not too many are open. */
        private boolean mayOpen() {
            if (open >= MOST_OPEN) return false;
            open++;
            goTo(now + 1);
            return true;
        }
    }

    /** A VEHICLE in a LANE, both in thought. */
    private static final class Ride {
        static final int MORE = 0, WALL = 1, HEADING = 2, PLACE = 3, WIDTH = 4, STEERS = 5;
        private static final int LOT_FACTOR = 48271, LOT_MODULUS = 2147483647;

        final Lane lane = new Lane();
        final Vehicle vehicle = new Vehicle();
        Text law;
        private final int[] names = new int[Text.NAMES];

        int says(int part, int place, int heading, int wall, int steers) {
            if (law == null) return 0;
            names[MORE] = vehicle.more;
            names[WALL] = wall;
            names[HEADING] = heading;
            names[PLACE] = place;
            names[WIDTH] = lane.width;
            names[STEERS] = steers;
            return law.says(part, names);
        }

        int wears(int place, int heading, int wheel) {
            return says(WEARS, place, heading, 0, wheel == 0 ? 0 : 1);
        }

        boolean fits(int place, int heading) {
            if (place < 0 || place > lane.width) return false;
            int ahead = place + across(heading) * vehicle.front() / 8;
            int behind = place - across(heading) * vehicle.behind() / 8;
            int least = Math.min(place, Math.min(ahead, behind));
            if (least < says(CLEARS, place, heading, 0, 0)) return false;
            int greatest = Math.max(place, Math.max(ahead, behind));
            int far = isAtOpening(heading) ? lane.width + lane.opening : lane.width;
            return greatest <= far - says(CLEARS, place, heading, 1, 0);
        }

        boolean fitsNow() {
            return fits(vehicle.place, vehicle.heading);
        }

        private static boolean isAtOpening(int heading) {
            int halfRound = heading & 7;
            return halfRound >= 3 && halfRound <= 5;
        }

        /** By how much PLACE is more behind a STEP with that HEADING ahead of it. */
        static int shift(int heading, int way) {
            int half = across(heading) / 2;
            return way == FORWARD ? half : -half;
        }

        int turnedBy(int heading, int way, int wheel) {
            return (heading + vehicle.turns(way, wheel)) & 15;
        }

        /** Goes A STEP, if it CAN BE. */
        boolean go(int way, int wheel) {
            int place = vehicle.place + shift(vehicle.heading, way);
            int heading = turnedBy(vehicle.heading, way, wheel);
            if (!fits(place, heading)) return false;
            vehicle.stepTo(place, heading, way, wears(vehicle.place, vehicle.heading, wheel));
            return true;
        }

        /** Goes by the moves, till a STEP CAN not BE: the row of that; NONE, if all CAN BE. */
        int through(Sheet moves) {
            for (int row = 0; row < moves.size / 3; row++) {
                int steps = moves.get(3 * row + 2);
                for (int i = 0; i < steps; i++) {
                    if (!go(moves.get(3 * row), moves.get(3 * row + 1))) return row;
                }
            }
            return NONE;
        }

        /** A DRIVE: in which STEP it HITS; NONE, if in none. */
        int byLots(int seed, int steps) {
            long lot = seed + 1L;
            for (int i = 0; i < steps; i++) {
                lot = lot * LOT_FACTOR % LOT_MODULUS;
                int way = lot % 2 == 0 ? FORWARD : BACK;
                int wheel = (int) (lot / 2 % 3) - 1;
                if (go(way, wheel)) continue;
                int sure = says(SURE, vehicle.place, vehicle.heading, 0, wheel == 0 ? 0 : 1);
                if (lot / 6 % 100 >= sure) return i;
            }
            return NONE;
        }
    }

    /**
     * How much it takes from everywhere to a HEADING. It is found from that HEADING back,
     * STEP by STEP, as one such search serves every place to begin from.
     */
    private static final class Search {
        private static final int SPOTS = (MOST_WIDTH + 1) * HEADINGS, STATES = 2 * SPOTS;
        private static final int FAR = 2147483647;
        /** More than a STEP can cost, so that costs in the same bucket are equal. */
        private static final int BUCKETS = 128;
        private static final int MOST_COST = 99 * STATES;

        private int goal;
        /** Of each PLACE with each HEADING whether it FITS. */
        private final boolean[] fitting = new boolean[SPOTS];
        /** The least cost found so far from each state: a PLACE, a HEADING and, for POINTS, a LAST way. */
        private final int[] costs = new int[STATES];
        /** The states to look at, a chain for each cost. */
        private final int[] heads = new int[BUCKETS];
        private final int[] nexts = new int[STATES];
        private final int[] previous = new int[STATES];
        private int waiting;
        /** The first STEP of what least() found: 10 times the way, and the WHEEL and 1; NONE, if there is none. */
        int firstStep;

        private static int state(int place, int heading, int last) {
            int inLane = Math.max(0, Math.min(place, MOST_WIDTH));
            return (inLane * HEADINGS + (heading & 15)) * 2 + (last & 1);
        }

        /** Finds the costs by which it comes to a HEADING. */
        void toHeading(Ride ride, int heading, int aim) {
            goal = aim;
            waiting = 0;
            Arrays.fill(costs, FAR);
            Arrays.fill(heads, NONE);
            for (int spot = 0; spot < (ride.lane.width + 1) * HEADINGS && spot < SPOTS; spot++) {
                fitting[spot] = ride.fits(spot / HEADINGS, spot % HEADINGS);
            }
            for (int place = 0; place <= ride.lane.width; place++) {
                lower(state(place, heading, FORWARD), 0);
                if (goal == GOAL_POINTS) lower(state(place, heading, BACK), 0);
            }
            for (int cost = 0; cost <= MOST_COST && waiting > 0; cost++) {
                for (int left = STATES; left > 0 && heads[cost % BUCKETS] >= 0; left--) {
                    int nearest = heads[cost % BUCKETS];
                    unlink(nearest);
                    lowerAhead(ride, nearest, cost);
                }
            }
        }

        /** Lowers the costs of all from which a STEP leads to a state. */
        private void lowerAhead(Ride ride, int state, int cost) {
            int last = state & 1;
            int heading = (state >> 1) & 15;
            int place = state >> 5;
            for (int way = FORWARD; way <= BACK; way++) {
                if (goal == GOAL_POINTS && way != last) continue;
                for (int wheel = -1; wheel <= 1; wheel++) {
                    int before = (heading - ride.vehicle.turns(way, wheel)) & 15;
                    int from = place - Ride.shift(before, way);
                    if (from < 0 || from > ride.lane.width) continue;
                    if (goal == GOAL_WEAR) {
                        lower(state(from, before, FORWARD), cost + ride.wears(from, before, wheel));
                    } else {
                        lower(state(from, before, way), cost);
                        lower(state(from, before, 1 - way), cost + 1);
                    }
                }
            }
        }

        private void lower(int state, int cost) {
            if (state < 0 || state >= STATES || cost < 0 || cost >= costs[state]) return;
            if (!fitting[state >> 1]) return;
            if (costs[state] != FAR) unlink(state);
            costs[state] = cost;
            int head = heads[cost % BUCKETS];
            nexts[state] = head;
            previous[state] = NONE;
            if (head >= 0 && head < STATES) previous[head] = state;
            heads[cost % BUCKETS] = state;
            waiting++;
        }

        private void unlink(int state) {
            if (state < 0 || state >= STATES) return;
            int next = nexts[state];
            int before = previous[state];
            if (before >= 0 && before < STATES) nexts[before] = next;
            else heads[costs[state] % BUCKETS] = next;
            if (next >= 0 && next < STATES) previous[next] = before;
            waiting--;
        }

        /** The least cost to the HEADING that was searched for, at least a STEP; NONE, if it is never reached. */
        int least(Ride ride, int place, int heading, int last) {
            int least = FAR;
            firstStep = NONE;
            for (int way = FORWARD; way <= BACK; way++) {
                int to = place + Ride.shift(heading, way);
                if (to < 0 || to > ride.lane.width) continue;
                for (int wheel = -1; wheel <= 1; wheel++) {
                    int side = goal == GOAL_POINTS ? way : FORWARD;
                    int rest = costs[state(to, ride.turnedBy(heading, way, wheel), side)];
                    if (rest == FAR) continue;
                    int own = way == last ? 0 : 1;
                    if (goal == GOAL_WEAR) own = ride.wears(place, heading, wheel);
                    if (own + rest >= least) continue;
                    least = own + rest;
                    firstStep = 10 * way + wheel + 1;
                }
            }
            return least == FAR ? NONE : least;
        }

        int leastFromNow(Ride ride) {
            return least(ride, ride.vehicle.place, ride.vehicle.heading, ride.vehicle.last);
        }

        /** The HEADINGS (bits) that STEPS lead to from where the VEHICLE is, its own among them. */
        int headingsReached(Ride ride) {
            Arrays.fill(costs, FAR);
            int start = state(ride.vehicle.place, ride.vehicle.heading, FORWARD);
            costs[start] = 0;
            nexts[0] = start;
            int found = 1;
            int bits = 0;
            for (int i = 0; i < found && i < STATES; i++) {
                int heading = (nexts[i] >> 1) & 15;
                bits |= 1 << heading;
                found = addBehind(ride, nexts[i] >> 5, heading, found);
            }
            return bits;
        }

        /** Adds what single STEPS lead to, to the row of what was found: how many there are then. */
        private int addBehind(Ride ride, int place, int heading, int found) {
            int many = found;
            for (int way = FORWARD; way <= BACK; way++) {
                int to = place + Ride.shift(heading, way);
                if (to < 0 || to > ride.lane.width) continue;
                for (int wheel = -1; wheel <= 1; wheel++) {
                    int turned = ride.turnedBy(heading, way, wheel);
                    int state = state(to, turned, FORWARD);
                    if (costs[state] != FAR || many >= STATES) continue;
                    costs[state] = 0;
                    if (!ride.fits(to, turned)) continue;
                    nexts[many] = state;
                    many++;
                }
            }
            return many;
        }
    }

    /** A SHEET. */
    private static final class Sheet {
        static final int NO_SORT = -1, BYTES = 0, SHORTS = 1, INTS = 2;
        static final int ROOM = 40;

        final int[] numbers = new int[ROOM];
        int sort = NO_SORT;
        int size;

        boolean isMissing() {
            return sort == NO_SORT;
        }

        void renew(int newSort, int n) {
            sort = newSort;
            size = newSort == NO_SORT ? 0 : Math.max(0, Math.min(n, ROOM));
            Arrays.fill(numbers, 0);
        }

        boolean has(int i) {
            return i >= 0 && i < size;
        }

        /** Whether n numbers stand from i on. */
        boolean hasRow(int i, int n) {
            return i >= 0 && n >= 0 && i <= size - n;
        }

        int get(int i) {
            return has(i) ? numbers[i] : 0;
        }

        void put(int i, int v) {
            if (!has(i)) return;
            if (sort == BYTES) numbers[i] = (byte) v;
            else if (sort == SHORTS) numbers[i] = (short) v;
            else numbers[i] = v;
        }

        /** Whether all rows of three are a way, a WHEEL and how many STEPS. */
        boolean tellsMoves() {
            if (size % 3 != 0) return false;
            for (int i = 0; i + 2 < size; i += 3) {
                if (!isWithin(numbers[i], FORWARD, BACK)) return false;
                if (!isWithin(numbers[i + 1], -1, 1) || !isWithin(numbers[i + 2], 1, 30)) return false;
            }
            return true;
        }
    }
}
