import java.util.ArrayList;
import java.util.Arrays;
import java.util.Collections;
import java.util.Comparator;
import java.util.HashSet;
import java.util.List;
import java.util.NoSuchElementException;
import java.util.Set;
import java.util.regex.Matcher;
import java.util.regex.Pattern;

/**
 * The document once more, written for plainness alone and in another way than LineChoice: states are copied where
 * something "would be", times are counted up one by one, BOARDS call themselves, texts are read by patterns.
 * AgainstOracleTest asks both the same.
 */
public final class Oracle {
    static final class L {
        int f;
        List<Integer> stops = new ArrayList<>();
        List<Integer> minutes = new ArrayList<>();
        List<Long> extra = new ArrayList<>();
        List<Long> average = new ArrayList<>();
        int seats = 50;
        int offset;
        boolean out;

        L copy() {
            L c = new L();
            c.f = f;
            c.stops.addAll(stops);
            c.minutes.addAll(minutes);
            c.extra.addAll(extra);
            c.average.addAll(average);
            c.seats = seats;
            c.offset = offset;
            c.out = out;
            return c;
        }

        long time(int p) {
            return 100L * minutes.get(p) + extra.get(p);
        }
    }

    static final class State {
        List<L> lines = new ArrayList<>();
        int waiting = 50;
        int goal;
        int[] riders = new int[10];
        Set<Integer> closed = new HashSet<>();
        int crowd;
        int k;

        State copy() {
            State c = new State();
            for (L l : lines) {
                c.lines.add(l.copy());
            }
            c.waiting = waiting;
            c.goal = goal;
            c.riders = riders.clone();
            c.closed.addAll(closed);
            c.crowd = crowd;
            c.k = k;
            return c;
        }
    }

    /** COSTS and SETS of a state, and LOADS by them. */
    static final class Found {
        final State s;
        Long[] cost = new Long[10];
        List<List<Integer>> sets = new ArrayList<>();
        Long[][] aboard;
        Long[][] boarding;
        boolean[][] alights;
        int rounds;
        long[][] load;
        long[][] on;
        long[][] off;
        long[] alighted = new long[10];

        Found(State s) {
            this.s = s;
            int n = s.lines.size();
            aboard = new Long[n][8];
            boarding = new Long[n][8];
            alights = new boolean[n][8];
            for (int i = 0; i < 10; i++) {
                sets.add(new ArrayList<>());
            }
            if (!s.closed.contains(s.goal)) {
                cost[s.goal] = 0L;
            }
            Long[] before;
            do {
                before = cost;
                cost = round(before);
                rounds++;
            } while (!Arrays.equals(before, cost));
            loads();
        }

        private Long[] round(Long[] old) {
            for (int i = 0; i < s.lines.size(); i++) {
                L l = s.lines.get(i);
                int last = l.stops.size() - 1;
                aboard[i][last] = old[l.stops.get(last)];
                alights[i][last] = aboard[i][last] != null;
                for (int p = last - 1; p >= 0; p--) {
                    Long stay = aboard[i][p + 1] == null ? null : Long.valueOf(l.time(p) + aboard[i][p + 1]);
                    Long leave = old[l.stops.get(p)];
                    boarding[i][p] = stay;
                    if (stay == null || leave == null) {
                        aboard[i][p] = stay == null ? leave : stay;
                    } else {
                        aboard[i][p] = Math.min(stay, leave);
                    }
                    alights[i][p] = leave != null && leave.equals(aboard[i][p]);
                }
            }
            Long[] now = old.clone();
            for (int stop = 0; stop < 10; stop++) {
                if (stop != s.goal && !s.closed.contains(stop)) {
                    now[stop] = chooses(stop);
                }
            }
            return now;
        }

        private Long chooses(int stop) {
            List<Integer> all = new ArrayList<>();
            for (int i = 0; i < s.lines.size(); i++) {
                L l = s.lines.get(i);
                int p = l.stops.indexOf(stop);
                if (p >= 0 && p < l.stops.size() - 1 && !l.out && boarding[i][p] != null) {
                    all.add(i);
                }
            }
            all.sort(Comparator.comparing((Integer i) -> boarding[i][s.lines.get(i).stops.indexOf(stop)])
                    .thenComparing(i -> i));
            List<Integer> set = new ArrayList<>();
            long n = 60L * s.waiting;
            long f = 0;
            for (int i : all) {
                long b = boarding[i][s.lines.get(i).stops.indexOf(stop)];
                if (f != 0 && b >= n / f) {
                    break;
                }
                set.add(i);
                n += s.lines.get(i).f * b;
                f += s.lines.get(i).f;
            }
            sets.set(stop, set);
            return set.isEmpty() ? null : Long.valueOf(n / f);
        }

        long f(int stop) {
            return sets.get(stop).stream().mapToLong(i -> s.lines.get(i).f).sum();
        }

        int leaves(int line, int p) {
            int q = p + 1;
            while (!alights[line][q]) {
                q++;
            }
            return q;
        }

        private void loads() {
            int n = s.lines.size();
            load = new long[n][8];
            on = new long[n][8];
            off = new long[n][8];
            List<Integer> order = new ArrayList<>();
            for (int i = 0; i < 10; i++) {
                if (i != s.goal && cost[i] != null) {
                    order.add(i);
                }
            }
            order.sort(Comparator.comparing((Integer i) -> -cost[i]).thenComparing(i -> i));
            for (int stop : order) {
                long v = s.riders[stop] + alighted[stop];
                long f = f(stop);
                long given = 0;
                for (int i : sets.get(stop)) {
                    given += v * s.lines.get(i).f / f;
                }
                boolean first = true;
                for (int i : sets.get(stop)) {
                    long part = v * s.lines.get(i).f / f + (first ? v - given : 0);
                    first = false;
                    int p = s.lines.get(i).stops.indexOf(stop);
                    int q = leaves(i, p);
                    on[i][p] += part;
                    off[i][q] += part;
                    for (int step = p; step < q; step++) {
                        load[i][step] += part;
                    }
                    alighted[s.lines.get(i).stops.get(q)] += part;
                }
            }
        }

        long boards(int stop) {
            if (stop == s.goal) {
                return 0;
            }
            long sum = 0;
            for (int i : sets.get(stop)) {
                L l = s.lines.get(i);
                int q = leaves(i, l.stops.indexOf(stop));
                sum += l.f * (1000 + boards(l.stops.get(q)));
            }
            return sum / f(stop);
        }

        long total() {
            long sum = 0;
            for (int i = 0; i < 10; i++) {
                sum += cost[i] == null ? 0 : s.riders[i] * cost[i];
            }
            return sum;
        }

        long stranded() {
            long sum = 0;
            for (int i = 0; i < 10; i++) {
                sum += cost[i] == null && i != s.goal ? s.riders[i] : 0;
            }
            return sum;
        }

        long changes() {
            long sum = 0;
            for (int i = 0; i < 10; i++) {
                sum += i == s.goal ? 0 : alighted[i];
            }
            return sum;
        }

        int within(long t) {
            int bits = 0;
            for (int i = 0; i < 10; i++) {
                bits += cost[i] != null && cost[i] <= t ? 1 << i : 0;
            }
            return bits;
        }

        long journey(int stop, long t, List<Long> rides) {
            long now = t;
            int at = stop;
            while (at != s.goal) {
                int best = -1;
                long when = Long.MAX_VALUE;
                for (int i : sets.get(at)) {
                    long c = comes(s.lines.get(i), s.lines.get(i).stops.indexOf(at), now);
                    if (c < when) {
                        when = c;
                        best = i;
                    }
                }
                L l = s.lines.get(best);
                int p = l.stops.indexOf(at);
                int q = leaves(best, p);
                now = when;
                for (int step = p; step < q; step++) {
                    now += l.time(step);
                }
                at = l.stops.get(q);
                rides.add((long) best);
                rides.add((long) at);
            }
            return now - t;
        }
    }

    static long comes(L l, int p, long t) {
        long way = 0;
        for (int step = 0; step < p; step++) {
            way += l.time(step);
        }
        long k = 0;
        while (100L * l.offset + k * 6000 / l.f + way < t) {
            k++;
        }
        return 100L * l.offset + k * 6000 / l.f + way;
    }

    private State s = new State();
    private List<Long> row = new ArrayList<>();
    private String text = "";

    private void tell(long... numbers) {
        row = new ArrayList<>();
        for (long n : numbers) {
            row.add(n);
        }
    }

    private boolean noLine(int line) {
        return line < 0 || line >= s.lines.size();
    }

    private boolean noHalt(int line, int p) {
        return noLine(line) || p < 0 || p >= s.lines.get(line).stops.size();
    }

    private boolean noStep(int line, int p) {
        return noHalt(line, p) || p == s.lines.get(line).stops.size() - 1;
    }

    private static boolean noStop(int stop) {
        return stop < 0 || stop > 9;
    }

    private static boolean not(int n, int from, int to) {
        return n < from || n > to;
    }

    public int sign(int v) {
        if (text.length() + 4 > 400) {
            return -1;
        }
        text += "" + (char) (v >>> 24) + (char) (v >>> 16 & 255) + (char) (v >>> 8 & 255) + (char) (v & 255);
        return text.length();
    }

    public boolean end(int n) {
        if (n < 0 || n > text.length()) {
            return false;
        }
        text = text.substring(0, n);
        return true;
    }

    private static final Pattern LINE = Pattern.compile("[0-9]{1,2}[:=][0-9](-[0-9]{1,2}-[0-9]){1,7}");

    /** The place of the fault in one LINE that begins at start, or -1. */
    private static int fault(String line, int start, int room) {
        if (room < 1) {
            return start;
        }
        int bad = 0;
        while (bad < line.length() && begins(line.substring(0, bad + 1))) {
            bad++;
        }
        String well = line.substring(0, bad);
        int fault = LINE.matcher(line).matches() ? Integer.MAX_VALUE : bad;
        Matcher frequency = Pattern.compile("^[0-9]{1,2}").matcher(well);
        if (frequency.find()) {
            int f = Integer.parseInt(frequency.group());
            if (f < 1 || f > 60) {
                return start + frequency.end() - 1;
            }
        }
        if (well.indexOf('=') >= 0 && room < 2) {
            return start;
        }
        Set<Character> seen = new HashSet<>();
        String[] parts = well.split("[:=]", 2);
        if (parts.length == 2) {
            int at = parts[0].length() + 1;
            String[] tokens = parts[1].split("-", -1);
            for (int i = 0; i < tokens.length; i++) {
                if (i % 2 == 0 && !tokens[i].isEmpty() && !seen.add(tokens[i].charAt(0))) {
                    fault = Math.min(fault, at);
                }
                if (i % 2 == 1 && !tokens[i].isEmpty() && Integer.parseInt(tokens[i]) == 0) {
                    fault = Math.min(fault, at + tokens[i].length() - 1);
                }
                at += tokens[i].length() + 1;
            }
        }
        return fault == Integer.MAX_VALUE ? -1 : start + fault;
    }

    private static boolean begins(String s) {
        Matcher m = LINE.matcher(s);
        return m.matches() || m.hitEnd();
    }

    private static List<L> read(String line) {
        L l = new L();
        String[] parts = line.split("[:=]");
        l.f = Integer.parseInt(parts[0]);
        String[] tokens = parts[1].split("-");
        for (int i = 0; i < tokens.length; i++) {
            if (i % 2 == 0) {
                l.stops.add(Integer.parseInt(tokens[i]));
            } else {
                l.minutes.add(Integer.parseInt(tokens[i]));
                l.extra.add(0L);
                l.average.add(0L);
            }
        }
        if (line.indexOf('=') < 0) {
            return List.of(l);
        }
        L back = l.copy();
        Collections.reverse(back.stops);
        Collections.reverse(back.minutes);
        return List.of(l, back);
    }

    public int net() {
        String t = text;
        text = "";
        List<L> lines = new ArrayList<>();
        if (!t.isEmpty()) {
            int start = 0;
            for (String line : t.split(";", -1)) {
                int fault = fault(line, start, 12 - lines.size());
                if (fault >= 0) {
                    return -21 - fault;
                }
                lines.addAll(read(line));
                start += line.length() + 1;
            }
        }
        s.lines = lines;
        s.closed.clear();
        s.k = 0;
        return lines.size();
    }

    public int adds() {
        String t = text;
        text = "";
        int fault = fault(t, 0, 12 - s.lines.size());
        if (fault >= 0) {
            return -21 - fault;
        }
        s.lines.addAll(read(t));
        return s.lines.size();
    }

    public int drops(int line) {
        if (noLine(line)) {
            return -1;
        }
        s.lines.remove(line);
        return s.lines.size();
    }

    public int waiting(int w) {
        if (not(w, 1, 100)) {
            return -1;
        }
        int was = s.waiting;
        s.waiting = w;
        return was;
    }

    public int goal(int stop) {
        if (noStop(stop)) {
            return -1;
        }
        int was = s.goal;
        s.goal = stop;
        return was;
    }

    public int riders(int stop, int v) {
        if (noStop(stop) || not(v, 0, 9999)) {
            return -1;
        }
        int was = s.riders[stop];
        s.riders[stop] = v;
        return was;
    }

    public int out(int line, boolean is) {
        if (noLine(line)) {
            return -1;
        }
        if (s.lines.get(line).out == is) {
            return -2;
        }
        s.lines.get(line).out = is;
        return (int) s.lines.stream().filter(l -> l.out).count();
    }

    public int closes(int stop, boolean is) {
        if (noStop(stop)) {
            return -1;
        }
        boolean changed = is ? s.closed.add(stop) : s.closed.remove(stop);
        return changed ? s.closed.size() : -2;
    }

    public int often(int line, int f) {
        if (noLine(line) || not(f, 1, 60)) {
            return -1;
        }
        int was = s.lines.get(line).f;
        s.lines.get(line).f = f;
        return was;
    }

    public int line(int line, int what) {
        if (noLine(line) || not(what, 0, 4)) {
            return -1;
        }
        L l = s.lines.get(line);
        return new int[] {l.f, l.stops.size(), l.seats, l.offset, l.out ? 1 : 0}[what];
    }

    public int stop(int line, int p) {
        if (noHalt(line, p)) {
            return -1;
        }
        L l = s.lines.get(line);
        tell();
        if (p < l.stops.size() - 1) {
            tell(l.minutes.get(p), l.extra.get(p));
        }
        return l.stops.get(p);
    }

    public int cost(int stop) {
        if (noStop(stop)) {
            return -1;
        }
        Found f = new Found(s);
        if (f.cost[stop] == null) {
            return -2;
        }
        tell(f.f(stop), f.sets.get(stop).size());
        return f.cost[stop].intValue();
    }

    public int rounds() {
        Found f = new Found(s);
        tell(Arrays.stream(f.cost).filter(c -> c != null).count());
        return f.rounds;
    }

    public int chosen(int stop) {
        if (noStop(stop)) {
            return -1;
        }
        Found f = new Found(s);
        tell(f.sets.get(stop).stream().mapToLong(i -> i).toArray());
        return f.sets.get(stop).stream().mapToInt(i -> 1 << i).sum();
    }

    public int boarding(int line, int p) {
        if (noStep(line, p)) {
            return -1;
        }
        Found f = new Found(s);
        if (f.boarding[line][p] == null) {
            return -2;
        }
        tell(f.sets.get(s.lines.get(line).stops.get(p)).contains(line) ? 1 : 0);
        return f.boarding[line][p].intValue();
    }

    public int aboard(int line, int p) {
        if (noHalt(line, p)) {
            return -1;
        }
        Found f = new Found(s);
        if (f.aboard[line][p] == null) {
            return -2;
        }
        tell(f.alights[line][p] ? 1 : 0);
        return f.aboard[line][p].intValue();
    }

    public int worst() {
        Found f = new Found(s);
        int found = -2;
        for (int i = 9; i >= 0; i--) {
            if (i != s.goal && f.cost[i] != null && (found < 0 || f.cost[i] >= f.cost[found])) {
                found = i;
            }
        }
        if (found >= 0) {
            tell(f.cost[found]);
        }
        return found;
    }

    public int wait(int stop) {
        if (noStop(stop)) {
            return -1;
        }
        Found f = new Found(s);
        return f.cost[stop] == null || stop == s.goal ? -2 : (int) (60 * s.waiting / f.f(stop));
    }

    public int boards(int stop) {
        if (noStop(stop)) {
            return -1;
        }
        Found f = new Found(s);
        return f.cost[stop] == null ? -2 : (int) f.boards(stop);
    }

    public int slack(int line, int p) {
        if (noStep(line, p)) {
            return -1;
        }
        Found f = new Found(s);
        L l = s.lines.get(line);
        int stop = l.stops.get(p);
        if (f.boarding[line][p] == null || f.cost[stop] == null || stop == s.goal || l.out) {
            return -2;
        }
        if (f.sets.get(stop).contains(line)) {
            return 0;
        }
        int less = 0;
        while (f.boarding[line][p] - less >= f.cost[stop]) {
            less++;
        }
        return less;
    }

    public int reach(int t) {
        if (t < 0) {
            return -1;
        }
        int bits = new Found(s).within(t);
        tell(bits);
        return Integer.bitCount(bits);
    }

    public int between(int stop, int goal) {
        if (noStop(stop) || noStop(goal)) {
            return -1;
        }
        State c = s.copy();
        c.goal = goal;
        Found f = new Found(c);
        if (f.cost[stop] == null) {
            return -2;
        }
        tell(f.rounds);
        return f.cost[stop].intValue();
    }

    public int load(int line, int p) {
        return noStep(line, p) ? -1 : (int) new Found(s).load[line][p];
    }

    public int passes(int stop) {
        if (noStop(stop)) {
            return -1;
        }
        Found f = new Found(s);
        if (f.cost[stop] == null) {
            tell(0);
            return s.riders[stop];
        }
        tell(f.alighted[stop]);
        return (int) (s.riders[stop] + f.alighted[stop]);
    }

    public int ridden(int line) {
        if (noLine(line)) {
            return -1;
        }
        Found f = new Found(s);
        long most = Arrays.stream(f.load[line]).max().getAsLong();
        int p = 0;
        while (f.load[line][p] != most) {
            p++;
        }
        tell(most, p);
        return (int) Arrays.stream(f.on[line]).sum();
    }

    public int boardings(int line, int p) {
        if (noHalt(line, p)) {
            return -1;
        }
        Found f = new Found(s);
        tell(f.off[line][p]);
        return (int) f.on[line][p];
    }

    public long total() {
        Found f = new Found(s);
        long riding = 0;
        for (int i = 0; i < s.lines.size(); i++) {
            for (int p = 0; p < s.lines.get(i).minutes.size(); p++) {
                riding += f.load[i][p] * s.lines.get(i).time(p);
            }
        }
        tell(f.stranded(), riding);
        return f.total();
    }

    public int fullest() {
        if (s.lines.isEmpty()) {
            return -2;
        }
        Found f = new Found(s);
        int found = 0;
        for (int i = 0; i < s.lines.size(); i++) {
            for (int p = 0; p < s.lines.get(i).minutes.size(); p++) {
                if (f.load[i][p] > f.load[found / 100][found % 100]) {
                    found = 100 * i + p;
                }
            }
        }
        tell(f.load[found / 100][found % 100]);
        return found;
    }

    public int changes() {
        return (int) new Found(s).changes();
    }

    public int crowd(int c) {
        if (not(c, 0, 9999)) {
            return -1;
        }
        int was = s.crowd;
        s.crowd = c;
        return was;
    }

    public int seats(int line, int n) {
        if (noLine(line) || not(n, 1, 999)) {
            return -1;
        }
        int was = s.lines.get(line).seats;
        s.lines.get(line).seats = n;
        return was;
    }

    private long settle() {
        Found f = new Found(s);
        s.k++;
        long gap = 0;
        for (int i = 0; i < s.lines.size(); i++) {
            L l = s.lines.get(i);
            for (int p = 0; p < l.minutes.size(); p++) {
                long d = f.load[i][p] - l.average.get(p);
                gap += d < 0 ? -d : d;
                long part = d < 0 ? -(-d / s.k) : d / s.k;
                l.average.set(p, l.average.get(p) + part);
                l.extra.set(p, Math.min(100000L, s.crowd * l.average.get(p) / ((long) l.seats * l.f)));
            }
        }
        return gap;
    }

    public int settles(int n) {
        if (not(n, 1, 50)) {
            return -1;
        }
        long gap = 0;
        for (int i = 0; i < n; i++) {
            gap = settle();
        }
        tell(s.k, new Found(s).total());
        return (int) gap;
    }

    public int balances(int g, int n) {
        if (not(n, 1, 200) || g < 0) {
            return -1;
        }
        long gap = Long.MAX_VALUE;
        int times = 0;
        while (times < n && gap > g) {
            gap = settle();
            times++;
        }
        tell(gap, s.k);
        return times;
    }

    public int averaged(int line, int p) {
        if (noStep(line, p)) {
            return -1;
        }
        tell(s.lines.get(line).extra.get(p));
        return s.lines.get(line).average.get(p).intValue();
    }

    public int clears() {
        int was = s.k;
        s.k = 0;
        for (L l : s.lines) {
            Collections.fill(l.extra, 0L);
            Collections.fill(l.average, 0L);
        }
        return was;
    }

    private long wouldBe(State c) {
        Found f = new Found(c);
        tell(f.total() - new Found(s).total(), f.stranded());
        return f.total();
    }

    public long without(int line) {
        if (noLine(line)) {
            return -1;
        }
        if (s.lines.get(line).out) {
            return -2;
        }
        State c = s.copy();
        c.lines.get(line).out = true;
        return wouldBe(c);
    }

    public long shut(int stop) {
        if (noStop(stop)) {
            return -1;
        }
        State c = s.copy();
        return c.closed.add(stop) ? wouldBe(c) : -2;
    }

    public long more(int line, int k) {
        if (noLine(line) || not(k, -59, 59) || not(s.lines.get(line).f + k, 1, 60)) {
            return -1;
        }
        State c = s.copy();
        c.lines.get(line).f += k;
        return wouldBe(c);
    }

    public int best(int k) {
        if (not(k, 1, 59)) {
            return -1;
        }
        int found = -2;
        long least = Long.MAX_VALUE;
        for (int i = 0; i < s.lines.size(); i++) {
            State c = s.copy();
            c.lines.get(i).f += k;
            if (!c.lines.get(i).out && c.lines.get(i).f <= 60 && new Found(c).total() < least) {
                found = i;
                least = new Found(c).total();
            }
        }
        if (found >= 0) {
            tell(least - new Found(s).total());
        }
        return found;
    }

    public long towards(int stop) {
        if (noStop(stop)) {
            return -1;
        }
        State c = s.copy();
        c.goal = stop;
        return wouldBe(c);
    }

    public long slower(int line, int p, int k) {
        if (noStep(line, p)) {
            return -1;
        }
        State c = s.copy();
        long then = (long) c.lines.get(line).minutes.get(p) + k;
        if (then < 1 || then > 99) {
            return -1;
        }
        c.lines.get(line).minutes.set(p, (int) then);
        return wouldBe(c);
    }

    public long skips(int line, int p) {
        if (noStep(line, p) || p == 0) {
            return -1;
        }
        State c = s.copy();
        L l = c.lines.get(line);
        l.stops.remove(p);
        l.minutes.set(p - 1, l.minutes.get(p - 1) + l.minutes.remove(p));
        l.extra.set(p - 1, l.extra.get(p - 1) + l.extra.remove(p));
        return wouldBe(c);
    }

    public int uses(int stop, int line) {
        if (noStop(stop) || noLine(line)) {
            return -1;
        }
        State c = s.copy();
        c.riders = new int[10];
        c.riders[stop] = 1000;
        Found f = new Found(c);
        if (f.cost[stop] == null) {
            return -2;
        }
        tell(f.changes());
        return (int) Arrays.stream(f.on[line]).sum();
    }

    public int centre() {
        List<Found> all = new ArrayList<>();
        for (int i = 0; i < 10; i++) {
            State c = s.copy();
            c.goal = i;
            all.add(new Found(c));
        }
        Found least = Collections.min(all, Comparator.comparing(Found::stranded).thenComparing(Found::total)
                .thenComparing((Found f) -> f.s.goal));
        tell(least.total(), least.stranded());
        return least.s.goal;
    }

    public int spare() {
        Found first = new Found(s);
        State c = s.copy();
        int bits = 0;
        for (int i = 0; i < c.lines.size(); i++) {
            if (!c.lines.get(i).out) {
                State d = c.copy();
                d.lines.get(i).out = true;
                Found f = new Found(d);
                if (f.total() == first.total() && f.stranded() == first.stranded()) {
                    bits += 1 << i;
                    c = d;
                }
            }
        }
        tell(Integer.bitCount(bits));
        return bits;
    }

    public int offset(int line, int n) {
        if (noLine(line) || not(n, 0, 59)) {
            return -1;
        }
        int was = s.lines.get(line).offset;
        s.lines.get(line).offset = n;
        return was;
    }

    public int comes(int line, int p, int t) {
        return noHalt(line, p) || not(t, 0, 100000) ? -1 : (int) comes(s.lines.get(line), p, t);
    }

    public int journey(int stop, int t) {
        if (noStop(stop) || not(t, 0, 100000)) {
            return -1;
        }
        Found f = new Found(s);
        if (f.cost[stop] == null) {
            return -2;
        }
        List<Long> rides = new ArrayList<>();
        long points = f.journey(stop, t, rides);
        row = rides.size() > 16 ? new ArrayList<>(rides.subList(0, 16)) : rides;
        return (int) points;
    }

    public int usual(int stop, int n) {
        if (noStop(stop) || not(n, 1, 60)) {
            return -1;
        }
        Found f = new Found(s);
        if (f.cost[stop] == null) {
            return -2;
        }
        List<Long> all = new ArrayList<>();
        for (int i = 0; i < n; i++) {
            all.add(f.journey(stop, 100L * i, new ArrayList<>()));
        }
        tell(Collections.min(all), Collections.max(all));
        return (int) (all.stream().mapToLong(j -> j).sum() / n);
    }

    public int count(int what) {
        if (not(what, 0, 12)) {
            return -1;
        }
        int n = s.lines.size();
        int steps = 0;
        int out = 0;
        int unused = 0;
        Found f = new Found(s);
        for (int i = 0; i < n; i++) {
            int line = i;
            steps += s.lines.get(i).minutes.size();
            out += s.lines.get(i).out ? 1 << i : 0;
            unused += f.sets.stream().anyMatch(set -> set.contains(line)) ? 0 : 1 << i;
        }
        int closed = s.closed.stream().mapToInt(c -> 1 << c).sum();
        return new int[] {n, s.waiting, s.goal, Arrays.stream(s.riders).sum(), s.crowd, s.k, steps, closed, out,
            row.size(), text.length(), unused, f.within(Long.MAX_VALUE)}[what];
    }

    public long row(int i) {
        if (not(i, 0, row.size() - 1)) {
            throw new NoSuchElementException();
        }
        return row.get(i);
    }
}
