import java.util.NoSuchElementException;

/**
 * Riders at STOPS who take whichever LINE of a SET comes first. The capital words are those of the document; what is
 * found (COSTS, SETS, LOADS) is found anew by each call that asks for it, so that nothing kept can be out of date.
 */
public final class LineChoice {
    public static final int NONE = -1;

    private static final int NOT_SO = -2;
    private static final int GREATEST = 0x7FFFFFFF;
    private static final int FAULT = -21;
    private static final int MOST_STOPS = 10;
    private static final int MOST_LINES = 12;
    private static final int MOST_HALTS = 8;
    private static final int MOST_STEPS = 7;
    private static final int MOST_SIGNS = 400;
    private static final int MOST_NUMBERS = 16;
    private static final int MOST_RIDES = 8;
    // A chain of COSTS that follow from one another never comes back to a STOP, so some eleven ROUNDS are the most.
    private static final int MOST_ROUNDS = 1000;
    private static final int MOST_FREQUENCY = 60;
    private static final int MOST_MINUTES = 99;
    private static final int MOST_WAITING = 100;
    private static final int MOST_RIDERS = 9999;
    private static final int MOST_CROWD = 9999;
    private static final int MOST_SEATS = 999;
    private static final int MOST_OFFSET = 59;
    private static final int MOST_EXTRA = 100000;
    private static final int MOST_START = 100000;
    private static final int MOST_MORE = 59;
    private static final int MOST_SETTLED = 50;
    private static final int MOST_BALANCED = 200;
    private static final int MOST_JOURNEYS = 60;
    private static final int FIRST_WAITING = 50;
    private static final int FIRST_SEATS = 50;
    private static final int POINTS_OF_MINUTE = 100;
    private static final int POINTS_OF_HOUR = 6000;
    private static final int MINUTES_OF_HOUR = 60;
    private static final int THOUSAND = 1000;

    private final Text text = new Text();
    private final Net net = new Net();
    private final Row told = new Row();
    private final Journey ride = new Journey();

    public LineChoice() {
    }

    // ---- lines, stops

    public int sign(int v) {
        return text.addsFour(v) ? text.length : NONE;
    }

    public boolean end(int n) {
        if (n < 0 || n > text.length) {
            return false;
        }
        text.length = n;
        return true;
    }

    public int net() {
        boolean well = text.readsLines();
        text.length = 0;
        if (!well) {
            return FAULT - text.fault;
        }
        net.replaceLines(text);
        return net.count;
    }

    public int adds() {
        boolean well = text.readsOneLine(MOST_LINES - net.count);
        text.length = 0;
        if (!well) {
            return FAULT - text.fault;
        }
        net.appendLines(text);
        return net.count;
    }

    public int drops(int line) {
        if (!net.hasLine(line)) {
            return NONE;
        }
        net.removeLine(line);
        return net.count;
    }

    public int waiting(int w) {
        if (w < 1 || w > MOST_WAITING) {
            return NONE;
        }
        int before = net.waiting;
        net.waiting = w;
        return before;
    }

    public int goal(int stop) {
        if (!isStop(stop)) {
            return NONE;
        }
        int before = net.goal;
        net.goal = stop;
        return before;
    }

    public int riders(int stop, int v) {
        if (!isStop(stop) || v < 0 || v > MOST_RIDERS) {
            return NONE;
        }
        int before = net.stops[stop].riders;
        net.stops[stop].riders = v;
        return before;
    }

    public int out(int line, boolean is) {
        if (!net.hasLine(line)) {
            return NONE;
        }
        if (net.lines[line].out == is) {
            return NOT_SO;
        }
        net.lines[line].out = is;
        return Integer.bitCount(net.outLines());
    }

    public int closes(int stop, boolean is) {
        if (!isStop(stop)) {
            return NONE;
        }
        if (net.stops[stop].closed == is) {
            return NOT_SO;
        }
        net.stops[stop].closed = is;
        return Integer.bitCount(net.closedStops());
    }

    public int often(int line, int f) {
        if (!net.hasLine(line) || f < 1 || f > MOST_FREQUENCY) {
            return NONE;
        }
        int before = net.lines[line].frequency;
        net.lines[line].frequency = f;
        return before;
    }

    public int line(int line, int what) {
        if (!net.hasLine(line)) {
            return NONE;
        }
        Line asked = net.lines[line];
        switch (what) {
            case 0:
                return asked.frequency;
            case 1:
                return asked.halts;
            case 2:
                return asked.seats;
            case 3:
                return asked.offset;
            case 4:
                return bit(asked.out);
            default:
                return NONE;
        }
    }

    public int stop(int line, int p) {
        if (!net.hasHalt(line, p)) {
            return NONE;
        }
        Line asked = net.lines[line];
        told.empty();
        if (asked.isStep(p)) {
            told.put(asked.minutes[p]);
            told.put(asked.extra[p]);
        }
        return asked.stops[p];
    }

    // ---- costs, sets

    public int cost(int stop) {
        if (!isStop(stop)) {
            return NONE;
        }
        net.findCosts();
        Stop asked = net.stops[stop];
        if (asked.cost == NONE) {
            return NOT_SO;
        }
        told.putTwo(asked.often, asked.taken);
        return asked.cost;
    }

    public int rounds() {
        net.findCosts();
        told.putOne(Integer.bitCount(net.stopsWithin(GREATEST)));
        return net.rounds;
    }

    public int chosen(int stop) {
        if (!isStop(stop)) {
            return NONE;
        }
        net.findCosts();
        Stop asked = net.stops[stop];
        told.empty();
        for (int i = 0; i < asked.taken; i++) {
            told.put(asked.lines[i]);
        }
        return asked.takenLines();
    }

    public int boarding(int line, int p) {
        if (!net.hasStep(line, p)) {
            return NONE;
        }
        net.findCosts();
        Line asked = net.lines[line];
        if (asked.boarding[p] == NONE) {
            return NOT_SO;
        }
        told.putOne(bit(net.isTaken(line, p)));
        return asked.boarding[p];
    }

    public int aboard(int line, int p) {
        if (!net.hasHalt(line, p)) {
            return NONE;
        }
        net.findCosts();
        Line asked = net.lines[line];
        if (asked.aboard[p] == NONE) {
            return NOT_SO;
        }
        told.putOne(bit(asked.alights[p]));
        return asked.aboard[p];
    }

    public int worst() {
        net.findCosts();
        int found = NONE;
        int greatest = 0;
        for (int i = 0; i < MOST_STOPS; i++) {
            if (i != net.goal && net.stops[i].cost > greatest) {
                found = i;
                greatest = net.stops[i].cost;
            }
        }
        if (found == NONE) {
            return NOT_SO;
        }
        told.putOne(greatest);
        return found;
    }

    public int wait(int stop) {
        if (!isStop(stop)) {
            return NONE;
        }
        net.findCosts();
        if (stop == net.goal || net.stops[stop].cost == NONE) {
            return NOT_SO;
        }
        return (int) parts(net.waitingWeight(), net.stops[stop].often);
    }

    public int boards(int stop) {
        if (!isStop(stop)) {
            return NONE;
        }
        net.findCosts();
        if (net.stops[stop].cost == NONE) {
            return NOT_SO;
        }
        net.findBoards();
        return net.stops[stop].boards;
    }

    public int slack(int line, int p) {
        if (!net.hasStep(line, p)) {
            return NONE;
        }
        net.findCosts();
        Line asked = net.lines[line];
        int there = asked.stops[p];
        int cost = net.stops[there].cost;
        if (asked.boarding[p] == NONE || cost == NONE || there == net.goal || asked.out) {
            return NOT_SO;
        }
        return net.isTaken(line, p) ? 0 : asked.boarding[p] - cost + 1;
    }

    public int reach(int t) {
        if (t < 0) {
            return NONE;
        }
        net.findCosts();
        int bits = net.stopsWithin(t);
        told.putOne(bits);
        return Integer.bitCount(bits);
    }

    public int between(int stop, int goal) {
        if (!isStop(stop) || !isStop(goal)) {
            return NONE;
        }
        int before = net.goal;
        net.goal = goal;
        net.findCosts();
        net.goal = before;
        int cost = net.stops[stop].cost;
        if (cost == NONE) {
            return NOT_SO;
        }
        told.putOne(net.rounds);
        return cost;
    }

    // ---- loads

    public int load(int line, int p) {
        if (!net.hasStep(line, p)) {
            return NONE;
        }
        net.findLoads();
        return net.lines[line].load[p];
    }

    public int passes(int stop) {
        if (!isStop(stop)) {
            return NONE;
        }
        net.findLoads();
        Stop asked = net.stops[stop];
        told.putOne(asked.alighted);
        return asked.riders + asked.alighted;
    }

    public int ridden(int line) {
        if (!net.hasLine(line)) {
            return NONE;
        }
        net.findLoads();
        Line asked = net.lines[line];
        int fullest = asked.fullestStep();
        told.putTwo(asked.load[fullest], fullest);
        return asked.allEntering();
    }

    public int boardings(int line, int p) {
        if (!net.hasHalt(line, p)) {
            return NONE;
        }
        net.findLoads();
        told.putOne(net.lines[line].leaving[p]);
        return net.lines[line].entering[p];
    }

    public long total() {
        net.findTotal();
        net.spreadLoads();
        told.putTwo(net.stranded, net.ridingPoints());
        return net.total;
    }

    public int fullest() {
        if (net.count == 0) {
            return NOT_SO;
        }
        net.findLoads();
        int found = 0;
        int greatest = NONE;
        for (int i = 0; i < net.count; i++) {
            int p = net.lines[i].fullestStep();
            if (net.lines[i].load[p] > greatest) {
                greatest = net.lines[i].load[p];
                found = 100 * i + p;
            }
        }
        told.putOne(greatest);
        return found;
    }

    public int changes() {
        net.findLoads();
        return net.changing();
    }

    // ---- crowds

    public int crowd(int c) {
        if (c < 0 || c > MOST_CROWD) {
            return NONE;
        }
        int before = net.crowd;
        net.crowd = c;
        return before;
    }

    public int seats(int line, int n) {
        if (!net.hasLine(line) || n < 1 || n > MOST_SEATS) {
            return NONE;
        }
        int before = net.lines[line].seats;
        net.lines[line].seats = n;
        return before;
    }

    public int settles(int n) {
        if (n < 1 || n > MOST_SETTLED) {
            return NONE;
        }
        int gap = 0;
        for (int i = 0; i < n; i++) {
            gap = net.settleOnce();
        }
        net.findTotal();
        told.putTwo(net.settled, net.total);
        return gap;
    }

    public int balances(int g, int n) {
        if (g < 0 || n < 1 || n > MOST_BALANCED) {
            return NONE;
        }
        int gap = net.settleOnce();
        int times = 1;
        while (times < n && gap > g) {
            gap = net.settleOnce();
            times++;
        }
        told.putTwo(gap, net.settled);
        return times;
    }

    public int averaged(int line, int p) {
        if (!net.hasStep(line, p)) {
            return NONE;
        }
        told.putOne(net.lines[line].extra[p]);
        return net.lines[line].average[p];
    }

    public int clears() {
        int before = net.settled;
        net.forgetCrowds();
        return before;
    }

    // ---- what would be

    public long without(int line) {
        if (!net.hasLine(line)) {
            return NONE;
        }
        Line asked = net.lines[line];
        if (asked.out) {
            return NOT_SO;
        }
        long now = totalNow();
        asked.out = true;
        net.findTotal();
        asked.out = false;
        return tellDifference(now);
    }

    public long shut(int stop) {
        if (!isStop(stop)) {
            return NONE;
        }
        Stop asked = net.stops[stop];
        if (asked.closed) {
            return NOT_SO;
        }
        long now = totalNow();
        asked.closed = true;
        net.findTotal();
        asked.closed = false;
        return tellDifference(now);
    }

    public long more(int line, int k) {
        if (!net.hasLine(line) || !canBeMore(net.lines[line], k)) {
            return NONE;
        }
        long now = totalNow();
        findTotalWithMore(net.lines[line], k);
        return tellDifference(now);
    }

    public int best(int k) {
        if (k < 1 || k > MOST_MORE) {
            return NONE;
        }
        long now = totalNow();
        long least = 0;
        int found = NONE;
        for (int i = 0; i < net.count; i++) {
            if (!net.lines[i].out && canBeMore(net.lines[i], k)) {
                findTotalWithMore(net.lines[i], k);
                if (found == NONE || net.total < least) {
                    found = i;
                    least = net.total;
                }
            }
        }
        if (found == NONE) {
            return NOT_SO;
        }
        told.putOne(least - now);
        return found;
    }

    public long towards(int stop) {
        if (!isStop(stop)) {
            return NONE;
        }
        long now = totalNow();
        findTotalTowards(stop);
        return tellDifference(now);
    }

    public long slower(int line, int p, int k) {
        if (!net.hasStep(line, p)) {
            return NONE;
        }
        Line asked = net.lines[line];
        int before = asked.minutes[p];
        long then = (long) before + k;
        if (then < 1 || then > MOST_MINUTES) {
            return NONE;
        }
        long now = totalNow();
        asked.minutes[p] = (int) then;
        net.findTotal();
        asked.minutes[p] = before;
        return tellDifference(now);
    }

    public long skips(int line, int p) {
        if (!net.hasStep(line, p) || p == 0) {
            return NONE;
        }
        long now = totalNow();
        net.findTotalSkipping(net.lines[line], p);
        return tellDifference(now);
    }

    public int uses(int stop, int line) {
        if (!isStop(stop) || !net.hasLine(line)) {
            return NONE;
        }
        net.findCosts();
        if (net.stops[stop].cost == NONE) {
            return NOT_SO;
        }
        net.spreadLoadsOf(stop, THOUSAND);
        told.putOne(net.changing());
        return net.lines[line].allEntering();
    }

    public int centre() {
        int found = 0;
        long leastStranded = 0;
        long least = 0;
        for (int i = 0; i < MOST_STOPS; i++) {
            findTotalTowards(i);
            boolean fewer = net.stranded < leastStranded;
            boolean cheaper = net.stranded == leastStranded && net.total < least;
            if (i == 0 || fewer || cheaper) {
                found = i;
                leastStranded = net.stranded;
                least = net.total;
            }
        }
        told.putTwo(least, leastStranded);
        return found;
    }

    public int spare() {
        long total = totalNow();
        long stranded = net.stranded;
        int bits = 0;
        for (int i = 0; i < net.count; i++) {
            Line asked = net.lines[i];
            if (!asked.out) {
                asked.out = true;
                net.findTotal();
                if (net.total == total && net.stranded == stranded) {
                    bits |= 1 << i;
                } else {
                    asked.out = false;
                }
            }
        }
        net.bringBack(bits);
        told.putOne(Integer.bitCount(bits));
        return bits;
    }

    // ---- by timetable

    public int offset(int line, int n) {
        if (!net.hasLine(line) || n < 0 || n > MOST_OFFSET) {
            return NONE;
        }
        int before = net.lines[line].offset;
        net.lines[line].offset = n;
        return before;
    }

    public int comes(int line, int p, int t) {
        if (!net.hasHalt(line, p) || !isStart(t)) {
            return NONE;
        }
        return net.lines[line].firstAt(p, t);
    }

    public int journey(int stop, int t) {
        if (!isStop(stop) || !isStart(t)) {
            return NONE;
        }
        net.findCosts();
        if (net.stops[stop].cost == NONE) {
            return NOT_SO;
        }
        int points = ride.takes(net, stop, t);
        told.empty();
        for (int i = 0; i < ride.kept; i++) {
            told.put(ride.lines[i]);
            told.put(ride.stops[i]);
        }
        return points;
    }

    public int usual(int stop, int n) {
        if (!isStop(stop) || n < 1 || n > MOST_JOURNEYS) {
            return NONE;
        }
        net.findCosts();
        if (net.stops[stop].cost == NONE) {
            return NOT_SO;
        }
        long sum = 0;
        int least = GREATEST;
        int greatest = 0;
        for (int i = 0; i < n; i++) {
            int points = ride.takes(net, stop, POINTS_OF_MINUTE * i);
            sum += points;
            least = Math.min(least, points);
            greatest = Math.max(greatest, points);
        }
        told.putTwo(least, greatest);
        return (int) parts(sum, n);
    }

    public int count(int what) {
        switch (what) {
            case 0:
                return net.count;
            case 1:
                return net.waiting;
            case 2:
                return net.goal;
            case 3:
                return net.allRiders();
            case 4:
                return net.crowd;
            case 5:
                return net.settled;
            case 6:
                return net.allSteps();
            case 7:
                return net.closedStops();
            case 8:
                return net.outLines();
            case 9:
                return told.size;
            case 10:
                return text.length;
            case 11:
                net.findCosts();
                return net.linesInNoSet();
            case 12:
                net.findCosts();
                return net.stopsWithin(GREATEST);
            default:
                return NONE;
        }
    }

    public long row(int i) throws NoSuchElementException {
        if (i < 0 || i >= told.size) {
            throw new NoSuchElementException("the row has no such number");
        }
        return told.numbers[i];
    }

    // ---- what several calls share

    private long totalNow() {
        net.findTotal();
        return net.total;
    }

    /** TOTAL as it was found last; the ROW: by how much it is more than the one there is, and STRANDED. */
    private long tellDifference(long now) {
        told.putTwo(net.total - now, net.stranded);
        return net.total;
    }

    private void findTotalTowards(int stop) {
        int before = net.goal;
        net.goal = stop;
        net.findTotal();
        net.goal = before;
    }

    private void findTotalWithMore(Line line, int k) {
        line.frequency += k;
        net.findTotal();
        line.frequency -= k;
    }

    private static boolean canBeMore(Line line, int k) {
        if (k < -MOST_MORE || k > MOST_MORE) {
            return false;
        }
        int then = line.frequency + k;
        return then >= 1 && then <= MOST_FREQUENCY;
    }

    private static boolean isStop(int stop) {
        return stop >= 0 && stop < MOST_STOPS;
    }

    private static boolean isStart(int t) {
        return t >= 0 && t <= MOST_START;
    }

    private static int bit(boolean is) {
        return is ? 1 : 0;
    }

    /** n by d, cut towards 0. No caller has a d below 1; the test keeps the machine from ever dividing by 0. */
    private static long parts(long n, long d) {
        return d < 1 ? 0 : n / d;
    }

    /** The ROW of numbers. */
    private static final class Row {
        final long[] numbers = new long[MOST_NUMBERS];
        int size;

        void empty() {
            size = 0;
        }

        void put(long number) {
            if (size < MOST_NUMBERS) {
                numbers[size] = number;
                size++;
            }
        }

        void putOne(long only) {
            empty();
            put(only);
        }

        void putTwo(long first, long second) {
            empty();
            put(first);
            put(second);
        }
    }

    /** One LINE: what is told of it, what SETTLED left on its STEPS, and what was found of it last. */
    private static final class Line {
        int frequency = 1;
        int halts;
        int seats = FIRST_SEATS;
        int offset;
        boolean out;
        final int[] stops = new int[MOST_HALTS];
        final int[] minutes = new int[MOST_HALTS];
        final int[] extra = new int[MOST_HALTS];
        final int[] average = new int[MOST_HALTS];
        final int[] aboard = new int[MOST_HALTS];
        final int[] boarding = new int[MOST_HALTS];
        final boolean[] alights = new boolean[MOST_HALTS];
        final int[] load = new int[MOST_HALTS];
        final int[] entering = new int[MOST_HALTS];
        final int[] leaving = new int[MOST_HALTS];

        void renew(int often) {
            frequency = often;
            halts = 0;
            seats = FIRST_SEATS;
            offset = 0;
            out = false;
        }

        /** A further STOP, so many MINUTES behind the last one (of the first STOP they count for nothing). */
        void lead(int takes, int stop) {
            if (halts >= MOST_HALTS) {
                return;
            }
            if (halts > 0) {
                minutes[halts - 1] = takes;
                extra[halts - 1] = 0;
                average[halts - 1] = 0;
            }
            stops[halts] = stop;
            halts++;
        }

        void becomeReturnOf(Line there) {
            renew(there.frequency);
            for (int p = there.halts - 1; p >= 0; p--) {
                lead(there.minutes[p], there.stops[p]);
            }
        }

        void copyWay(Line other) {
            halts = other.halts;
            for (int p = 0; p < MOST_HALTS; p++) {
                stops[p] = other.stops[p];
                minutes[p] = other.minutes[p];
                extra[p] = other.extra[p];
            }
        }

        /** STOP p goes, and the STEPS to it and from it become one. */
        void omit(int p) {
            if (p < 1 || p >= halts - 1) {
                return;
            }
            minutes[p - 1] += minutes[p];
            extra[p - 1] += extra[p];
            for (int i = p; i + 1 < halts; i++) {
                stops[i] = stops[i + 1];
                minutes[i] = minutes[i + 1];
                extra[i] = extra[i + 1];
            }
            halts--;
        }

        boolean isHalt(int p) {
            return p >= 0 && p < halts;
        }

        boolean isStep(int p) {
            return p >= 0 && p < halts - 1;
        }

        boolean goesTo(int stop) {
            for (int p = 0; p < halts; p++) {
                if (stops[p] == stop) {
                    return true;
                }
            }
            return false;
        }

        /** TIME of STEP p. */
        int time(int p) {
            return POINTS_OF_MINUTE * minutes[p] + extra[p];
        }

        int timeBetween(int from, int to) {
            int sum = 0;
            for (int p = from; p < to; p++) {
                sum += time(p);
            }
            return sum;
        }

        /** ABOARD, BOARDING and where it ALIGHTS, by the COSTS there are, from the last STOP back. */
        void findRides(Stop[] all) {
            int ahead = NONE;
            for (int p = halts - 1; p >= 0; p--) {
                int on = ahead == NONE ? NONE : time(p) + ahead;
                int off = all[stops[p]].cost;
                boolean leaves = off != NONE && (on == NONE || off <= on);
                ahead = leaves ? off : on;
                boarding[p] = on;
                aboard[p] = ahead;
                alights[p] = leaves;
            }
        }

        /** Where one who boards at STOP p leaves: the next STOP where it ALIGHTS, or NONE. */
        int leftFrom(int p) {
            for (int q = p + 1; q < halts; q++) {
                if (alights[q]) {
                    return q;
                }
            }
            return NONE;
        }

        void forgetLoads() {
            for (int p = 0; p < MOST_HALTS; p++) {
                load[p] = 0;
                entering[p] = 0;
                leaving[p] = 0;
            }
        }

        void carry(int from, int to, int people) {
            entering[from] += people;
            leaving[to] += people;
            for (int p = from; p < to; p++) {
                load[p] += people;
            }
        }

        int allEntering() {
            int sum = 0;
            for (int p = 0; p < halts; p++) {
                sum += entering[p];
            }
            return sum;
        }

        int fullestStep() {
            int found = 0;
            for (int p = 1; p < halts - 1; p++) {
                if (load[p] > load[found]) {
                    found = p;
                }
            }
            return found;
        }

        /** LOADS AVERAGED by the LOADS there are, for the time K, then EXTRAS by CROWD: its part of the GAP. */
        int averageLoads(int k, int crowd) {
            int gap = 0;
            for (int p = 0; p < halts - 1; p++) {
                int difference = load[p] - average[p];
                gap += Math.abs(difference);
                average[p] += (int) parts(difference, k);
                long slow = parts((long) crowd * average[p], (long) seats * frequency);
                extra[p] = (int) Math.min(slow, MOST_EXTRA);
            }
            return gap;
        }

        /** The first POINTS from t on at which it comes to STOP p. */
        int firstAt(int p, int t) {
            int first = POINTS_OF_MINUTE * offset + timeBetween(0, p);
            if (t <= first) {
                return first;
            }
            long k = parts((long) (t - first) * frequency + POINTS_OF_HOUR - 1, POINTS_OF_HOUR);
            return first + (int) parts(k * POINTS_OF_HOUR, frequency);
        }
    }

    /** One STOP: what is told of it, and what was found of it last: its BOARDINGS by rising ones, the TAKEN ahead. */
    private static final class Stop {
        int riders;
        boolean closed;
        int cost = NONE;
        int offers;
        int taken;
        int often;
        int alighted;
        int boards;
        int held;
        final int[] lines = new int[MOST_LINES];
        final int[] places = new int[MOST_LINES];
        final int[] points = new int[MOST_LINES];

        void forgetOffers() {
            offers = 0;
            taken = 0;
            often = 0;
        }

        /** A BOARDING more. LINES offer by their numbers, so that of like ones the lesser LINE stays ahead. */
        void offer(int line, int place, int boarding) {
            if (offers >= MOST_LINES) {
                return;
            }
            int i = offers;
            while (i > 0 && points[i - 1] > boarding) {
                lines[i] = lines[i - 1];
                places[i] = places[i - 1];
                points[i] = points[i - 1];
                i--;
            }
            lines[i] = line;
            places[i] = place;
            points[i] = boarding;
            offers++;
        }

        /** Takes of the offers those that are worth it (none is TAKEN before): the COST that follows. */
        int choose(long waitingWeight, Line[] all) {
            long n = waitingWeight;
            while (taken < offers && (taken == 0 || points[taken] < parts(n, often))) {
                int frequency = all[lines[taken]].frequency;
                n += (long) frequency * points[taken];
                often += frequency;
                taken++;
            }
            return taken == 0 ? NONE : (int) parts(n, often);
        }

        boolean takes(int line) {
            return (takenLines() >> line & 1) == 1;
        }

        int takenLines() {
            int bits = 0;
            for (int i = 0; i < taken; i++) {
                bits |= 1 << lines[i];
            }
            return bits;
        }
    }

    /** All LINES and STOPS, and what is found over all of them: COSTS in ROUNDS, LOADS, SETTLED. */
    private static final class Net {
        Line[] lines = newLines();
        int count;
        final Stop[] stops = new Stop[MOST_STOPS];
        int waiting = FIRST_WAITING;
        int goal;
        int crowd;
        int settled;
        int rounds;
        long total;
        long stranded;
        final int[] order = new int[MOST_STOPS];
        int ordered;
        final Line kept = new Line();

        Net() {
            for (int i = 0; i < MOST_STOPS; i++) {
                stops[i] = new Stop();
            }
        }

        boolean hasLine(int line) {
            return line >= 0 && line < count;
        }

        boolean hasHalt(int line, int p) {
            return hasLine(line) && lines[line].isHalt(p);
        }

        boolean hasStep(int line, int p) {
            return hasLine(line) && lines[line].isStep(p);
        }

        /** The LINES that were read take the place of all, and the old ones are the next to be written over. */
        void replaceLines(Text text) {
            Line[] old = lines;
            lines = text.lines;
            text.lines = old;
            count = text.read;
            settled = 0;
            for (int i = 0; i < MOST_STOPS; i++) {
                stops[i].closed = false;
            }
        }

        void appendLines(Text text) {
            for (int i = 0; i < text.read && count < MOST_LINES; i++) {
                Line old = lines[count];
                lines[count] = text.lines[i];
                text.lines[i] = old;
                count++;
            }
        }

        void removeLine(int line) {
            Line gone = lines[line];
            for (int i = line; i + 1 < count; i++) {
                lines[i] = lines[i + 1];
            }
            count--;
            lines[count] = gone;
        }

        int outLines() {
            int bits = 0;
            for (int i = 0; i < count; i++) {
                bits |= bit(lines[i].out) << i;
            }
            return bits;
        }

        void bringBack(int bits) {
            for (int i = 0; i < count; i++) {
                if ((bits >> i & 1) == 1) {
                    lines[i].out = false;
                }
            }
        }

        int closedStops() {
            int bits = 0;
            for (int i = 0; i < MOST_STOPS; i++) {
                bits |= bit(stops[i].closed) << i;
            }
            return bits;
        }

        int allRiders() {
            int sum = 0;
            for (int i = 0; i < MOST_STOPS; i++) {
                sum += stops[i].riders;
            }
            return sum;
        }

        int allSteps() {
            int sum = 0;
            for (int i = 0; i < count; i++) {
                sum += lines[i].halts - 1;
            }
            return sum;
        }

        long waitingWeight() {
            return (long) MINUTES_OF_HOUR * waiting;
        }

        void findCosts() {
            for (int i = 0; i < MOST_STOPS; i++) {
                stops[i].cost = i == goal && !stops[i].closed ? 0 : NONE;
            }
            rounds = 0;
            boolean changed = true;
            while (changed && rounds < MOST_ROUNDS) {
                collectOffers();
                changed = chooseAll();
                rounds++;
            }
        }

        /** The first half of a ROUND: all BOARDINGS, by COSTS as they are ahead of it. */
        private void collectOffers() {
            for (int i = 0; i < MOST_STOPS; i++) {
                stops[i].forgetOffers();
            }
            for (int i = 0; i < count; i++) {
                Line line = lines[i];
                line.findRides(stops);
                for (int p = 0; p < line.halts - 1 && !line.out; p++) {
                    int there = line.stops[p];
                    if (line.boarding[p] != NONE && there != goal && !stops[there].closed) {
                        stops[there].offer(i, p, line.boarding[p]);
                    }
                }
            }
        }

        /** The second half: COSTS by the BOARDINGS; whether one changes. */
        private boolean chooseAll() {
            boolean changed = false;
            for (int i = 0; i < MOST_STOPS; i++) {
                Stop stop = stops[i];
                if (i != goal && !stop.closed) {
                    int before = stop.cost;
                    stop.cost = stop.choose(waitingWeight(), lines);
                    changed = changed || stop.cost != before;
                }
            }
            return changed;
        }

        boolean isTaken(int line, int p) {
            return stops[lines[line].stops[p]].takes(line);
        }

        /** STOPS with a COST of t or less, as bits. */
        int stopsWithin(int t) {
            int bits = 0;
            for (int i = 0; i < MOST_STOPS; i++) {
                int cost = stops[i].cost;
                bits |= bit(cost != NONE && cost <= t) << i;
            }
            return bits;
        }

        int linesInNoSet() {
            int inSets = 0;
            for (int i = 0; i < MOST_STOPS; i++) {
                inSets |= stops[i].takenLines();
            }
            return ((1 << count) - 1) & ~inSets;
        }

        /** STOPS but the GOAL that have a COST, by falling COST: riders go from earlier ones to later ones alone. */
        private void orderStops() {
            ordered = 0;
            for (int s = 0; s < MOST_STOPS; s++) {
                if (s != goal && stops[s].cost != NONE) {
                    int i = ordered;
                    while (i > 0 && stops[order[i - 1]].cost < stops[s].cost) {
                        order[i] = order[i - 1];
                        i--;
                    }
                    order[i] = s;
                    ordered++;
                }
            }
        }

        void findBoards() {
            orderStops();
            stops[goal].boards = 0;
            for (int i = ordered - 1; i >= 0; i--) {
                stops[order[i]].boards = boardsBySet(stops[order[i]]);
            }
        }

        private int boardsBySet(Stop stop) {
            long sum = 0;
            for (int i = 0; i < stop.taken; i++) {
                Line line = lines[stop.lines[i]];
                int left = line.leftFrom(stop.places[i]);
                if (left != NONE) {
                    sum += (long) line.frequency * (THOUSAND + stops[line.stops[left]].boards);
                }
            }
            return (int) parts(sum, stop.often);
        }

        void findLoads() {
            findCosts();
            spreadLoads();
        }

        /** LOADS by the COSTS that were found last. */
        void spreadLoads() {
            for (int i = 0; i < count; i++) {
                lines[i].forgetLoads();
            }
            for (int i = 0; i < MOST_STOPS; i++) {
                stops[i].alighted = 0;
            }
            orderStops();
            for (int i = 0; i < ordered; i++) {
                boardAll(stops[order[i]]);
            }
        }

        private void boardAll(Stop stop) {
            int people = stop.riders + stop.alighted;
            int left = people;
            for (int i = 0; i < stop.taken; i++) {
                left -= shareOf(stop, i, people);
            }
            for (int i = 0; i < stop.taken; i++) {
                int share = shareOf(stop, i, people);
                carry(lines[stop.lines[i]], stop.places[i], i == 0 ? share + left : share);
            }
        }

        private int shareOf(Stop stop, int i, int people) {
            return (int) parts((long) people * lines[stop.lines[i]].frequency, stop.often);
        }

        private void carry(Line line, int from, int people) {
            int to = line.leftFrom(from);
            if (to != NONE) {
                line.carry(from, to, people);
                stops[line.stops[to]].alighted += people;
            }
        }

        /** LOADS, if so many were at one STOP and none elsewhere. */
        void spreadLoadsOf(int stop, int people) {
            for (int i = 0; i < MOST_STOPS; i++) {
                stops[i].held = stops[i].riders;
                stops[i].riders = i == stop ? people : 0;
            }
            spreadLoads();
            for (int i = 0; i < MOST_STOPS; i++) {
                stops[i].riders = stops[i].held;
            }
        }

        int changing() {
            int sum = 0;
            for (int i = 0; i < MOST_STOPS; i++) {
                sum += i == goal ? 0 : stops[i].alighted;
            }
            return sum;
        }

        long ridingPoints() {
            long sum = 0;
            for (int i = 0; i < count; i++) {
                for (int p = 0; p < lines[i].halts - 1; p++) {
                    sum += (long) lines[i].load[p] * lines[i].time(p);
                }
            }
            return sum;
        }

        /** COSTS, then TOTAL and STRANDED. */
        void findTotal() {
            findCosts();
            total = 0;
            stranded = 0;
            for (int i = 0; i < MOST_STOPS; i++) {
                Stop stop = stops[i];
                if (stop.cost != NONE) {
                    total += (long) stop.riders * stop.cost;
                } else if (i != goal) {
                    stranded += stop.riders;
                }
            }
        }

        void findTotalSkipping(Line line, int p) {
            kept.copyWay(line);
            line.omit(p);
            findTotal();
            line.copyWay(kept);
        }

        /** SETTLED once: the GAP. */
        int settleOnce() {
            findLoads();
            settled++;
            int gap = 0;
            for (int i = 0; i < count; i++) {
                gap += lines[i].averageLoads(settled, crowd);
            }
            return gap;
        }

        void forgetCrowds() {
            settled = 0;
            for (int i = 0; i < count; i++) {
                for (int p = 0; p < MOST_HALTS; p++) {
                    lines[i].extra[p] = 0;
                    lines[i].average[p] = 0;
                }
            }
        }
    }

    /** THE TEXT, and the LINES read from it. */
    private static final class Text {
        final int[] signs = new int[MOST_SIGNS];
        int length;
        Line[] lines = newLines();
        int read;
        int fault;
        private int at;
        private int number;

        boolean addsFour(int v) {
            if (length > MOST_SIGNS - 4) {
                return false;
            }
            for (int shift = 24; shift >= 0; shift -= 8) {
                signs[length] = v >> shift & 255;
                length++;
            }
            return true;
        }

        /** Reads as net() does: whether it is well told; else fault is the place of what can't stand. */
        boolean readsLines() {
            begin();
            if (length == 0) {
                return true;
            }
            boolean well = readsLine(MOST_LINES);
            for (int i = 1; i <= MOST_LINES && well && isNext(';'); i++) {
                at++;
                well = readsLine(MOST_LINES);
            }
            return well && readsEnd();
        }

        /** Reads as adds() does. */
        boolean readsOneLine(int room) {
            begin();
            return readsLine(room) && readsEnd();
        }

        private void begin() {
            at = 0;
            read = 0;
        }

        private boolean isNext(char sign) {
            return at < length && signs[at] == sign;
        }

        private boolean isDigitNext() {
            return at < length && signs[at] >= '0' && signs[at] <= '9';
        }

        private boolean fails(int place) {
            fault = place;
            return false;
        }

        private boolean readsEnd() {
            return at == length || fails(at);
        }

        private boolean readsSign(char sign) {
            if (!isNext(sign)) {
                return fails(at);
            }
            at++;
            return true;
        }

        /** One or two digits, 1 .. most together. */
        private boolean readsNumber(int most) {
            if (!isDigitNext()) {
                return fails(at);
            }
            number = 0;
            for (int i = 0; i < 2 && isDigitNext(); i++) {
                number = 10 * number + signs[at] - '0';
                at++;
            }
            return number >= 1 && number <= most || fails(at - 1);
        }

        private boolean readsStop(Line line, int takes) {
            if (!isDigitNext() || line.goesTo(signs[at] - '0')) {
                return fails(at);
            }
            line.lead(takes, signs[at] - '0');
            at++;
            return true;
        }

        private boolean readsStep(Line line) {
            return readsSign('-') && readsNumber(MOST_MINUTES) && readsSign('-') && readsStop(line, number);
        }

        private boolean readsLine(int room) {
            int first = at;
            if (read >= room || read >= MOST_LINES) {
                return fails(first);
            }
            if (!readsNumber(MOST_FREQUENCY)) {
                return false;
            }
            boolean both = isNext('=');
            // A LINE told with = has no room as soon as the = is read, whatever comes behind it.
            if (both && (read + 1 >= room || read + 1 >= MOST_LINES)) {
                return fails(first);
            }
            if (!readsSign(both ? '=' : ':')) {
                return false;
            }
            Line line = lines[read];
            line.renew(number);
            return readsWay(line) && keep(line, both);
        }

        private boolean readsWay(Line line) {
            if (!readsStop(line, 0) || !readsStep(line)) {
                return false;
            }
            for (int i = 1; i < MOST_STEPS && isNext('-'); i++) {
                if (!readsStep(line)) {
                    return false;
                }
            }
            return true;
        }

        private boolean keep(Line line, boolean both) {
            read++;
            if (both) {
                lines[read].becomeReturnOf(line);
                read++;
            }
            return true;
        }
    }

    /** A JOURNEY by the TIMETABLE, over the COSTS and SETS that were found last. */
    private static final class Journey {
        final int[] lines = new int[MOST_RIDES];
        final int[] stops = new int[MOST_RIDES];
        int kept;

        /** POINTS it takes. Each ride ends where COST is less, so there are fewer rides than STOPS. */
        int takes(Net net, int stop, int t) {
            kept = 0;
            int now = t;
            int there = stop;
            for (int i = 0; i < MOST_STOPS && there != net.goal; i++) {
                Stop from = net.stops[there];
                int first = firstOf(net, from, now);
                int to = first == NONE ? NONE : net.lines[from.lines[first]].leftFrom(from.places[first]);
                if (to == NONE) {
                    break;
                }
                Line line = net.lines[from.lines[first]];
                int place = from.places[first];
                now = line.firstAt(place, now) + line.timeBetween(place, to);
                there = line.stops[to];
                keepRide(from.lines[first], there);
            }
            return now - t;
        }

        /** Which one TAKEN comes first, of like ones the first of the SET; NONE without a SET. */
        private int firstOf(Net net, Stop from, int now) {
            int found = NONE;
            int earliest = 0;
            for (int i = 0; i < from.taken; i++) {
                int comes = net.lines[from.lines[i]].firstAt(from.places[i], now);
                if (found == NONE || comes < earliest) {
                    found = i;
                    earliest = comes;
                }
            }
            return found;
        }

        private void keepRide(int line, int stop) {
            if (kept < MOST_RIDES) {
                lines[kept] = line;
                stops[kept] = stop;
                kept++;
            }
        }
    }

    private static Line[] newLines() {
        Line[] made = new Line[MOST_LINES];
        for (int i = 0; i < MOST_LINES; i++) {
            made[i] = new Line();
        }
        return made;
    }
}
