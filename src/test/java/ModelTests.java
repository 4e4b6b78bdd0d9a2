import java.util.ArrayList;
import java.util.List;
import java.util.Random;
import java.util.function.ToIntFunction;
import java.util.regex.Matcher;
import java.util.regex.Pattern;

/**
 * Long runs of calls, the same on the program and on a model that is written another way: new objects for
 * each thought, lists, a pattern for the letters. The seeds are fixed, so each run is always the same.
 */
public final class ModelTests {
    private static final class Flat {
        final int storey;
        final int stack;
        int saucer;
        int holds;
        int awning;
        int washing;
        int hung;
        int tenant;

        Flat(int storey, int stack, int tenant) {
            this.storey = storey;
            this.stack = stack;
            this.tenant = tenant;
        }

        Flat like() {
            Flat f = new Flat(storey, stack, tenant);
            f.saucer = saucer;
            f.holds = holds;
            f.awning = awning;
            f.washing = washing;
            f.hung = hung;
            return f;
        }

        int number() {
            return 10 * storey + stack;
        }
    }

    private record Habit(int tenant, int kind, int figure, int hour) {
        Habit at(int other) {
            return new Habit(tenant, kind, figure, other);
        }

        Habit more() {
            return new Habit(tenant, kind, figure > 8 ? 9 : figure + 1, hour);
        }
    }

    private record Drop(Flat flat, int harm) { }

    private static final class World {
        List<Flat> flats = new ArrayList<>();
        List<Habit> habits = new ArrayList<>();
        int storeys;
        int stacks;
        int wind;
        int week;
        int[] harm = new int[24];
        int[][] anger = new int[24][24];
        boolean[][] latest = new boolean[24][24];
        int[] done = new int[24];

        World(int storeys, int stacks) {
            this.storeys = storeys;
            this.stacks = stacks;
            for (int i = 0; i < storeys * stacks; i++) {
                flats.add(new Flat(i / stacks, i % stacks, i));
            }
        }

        World like() {
            World w = new World(storeys, stacks);
            w.flats.clear();
            for (Flat f : flats) {
                w.flats.add(f.like());
            }
            w.habits = new ArrayList<>(habits);
            w.wind = wind;
            w.week = week;
            w.harm = harm.clone();
            for (int i = 0; i < 24; i++) {
                w.anger[i] = anger[i].clone();
                w.latest[i] = latest[i].clone();
            }
            return w;
        }

        Flat find(int storey, int stack) {
            for (Flat f : flats) {
                if (f.storey == storey && f.stack == stack) {
                    return f;
                }
            }
            return null;
        }

        Flat find(int number) {
            for (Flat f : flats) {
                if (f.number() == number) {
                    return f;
                }
            }
            return null;
        }

        Flat home(int tenant) {
            for (Flat f : flats) {
                if (f.tenant == tenant) {
                    return f;
                }
            }
            return null;
        }

        Flat onward(Flat f, int kind) {
            if (kind == 4) {
                Flat above = find(f.storey + 1, f.stack);
                return above == null || above.awning != 0 ? null : above;
            }
            int over = kind == 1 || kind == 5 ? wind : kind == 2 ? f.awning : 0;
            if (kind == 5 && wind == 0 && find(f.storey - 2, f.stack) != null) {
                return find(f.storey - 2, f.stack);
            }
            return find(f.storey - 1, f.stack + over);
        }

        /** What comes down; it stays in the saucers, so ask a likeness if it must not. */
        List<Drop> fall(Habit h) {
            List<Drop> drops = new ArrayList<>();
            int left = h.figure;
            for (Flat f = onward(home(h.tenant), h.kind); f != null && left > 0; f = onward(f, h.kind)) {
                drops.add(new Drop(f, harmOf(h, f, left)));
                if (h.kind != 3 && h.kind != 4) {
                    int room = f.saucer - f.holds;
                    int held = Math.min(left, h.kind == 5 ? room / 2 : room);
                    f.holds += held;
                    left -= held;
                }
            }
            return drops;
        }

        static int harmOf(Habit h, Flat f, int comes) {
            if (f.washing == 0 || (f.hung & 1 << h.hour) == 0) {
                return 0;
            }
            int asFall = comes < f.washing ? comes : f.washing;
            int[] by = {asFall, asFall / 2, asFall, Math.min(2 * comes, 2 * f.washing), 1, asFall / 2 + 2};
            return by[h.kind];
        }

        int spend() {
            done = new int[24];
            latest = new boolean[24][24];
            int all = 0;
            for (int hour = 0; hour < 8; hour++) {
                for (Habit h : habits) {
                    if (h.hour == hour) {
                        for (Drop d : fall(h)) {
                            all += d.harm;
                            book(d.flat.tenant, h.tenant, d.harm);
                        }
                    }
                }
            }
            for (Flat f : flats) {
                f.holds -= f.holds > 0 ? 1 : 0;
            }
            week++;
            return all;
        }

        void book(int tenant, int doer, int v) {
            done[tenant] += v;
            harm[tenant] = Math.min(99999, harm[tenant] + v);
            if (v > 0 && tenant != doer) {
                latest[tenant][doer] = true;
                anger[tenant][doer] = Math.min(999, anger[tenant][doer] + v);
            }
        }

        void swap(int one, int other) {
            Flat a = home(one);
            Flat b = home(other);
            a.tenant = other;
            b.tenant = one;
        }
    }

    private static final Pattern FRONT = Pattern.compile("((f\\d\\d|s\\d\\d\\d|a\\d\\d[-+0]|w\\d\\d\\d[0-7]{0,8}"
            + "|b[-+0]|h\\d\\d?,\\d\\d\\d);)+", Pattern.DOTALL);

    private static final class Model {
        World now = new World(3, 2);
        World kept;
        StringBuilder text = new StringBuilder();
        List<Integer> row = new ArrayList<>();
        int[] refused = new int[7];

        int no(int number) {
            refused[-number]++;
            return number;
        }

        boolean tenant(int t) {
            return t >= 0 && t < now.flats.size();
        }

        boolean habit(int h) {
            return h >= 0 && h < now.habits.size();
        }

        static boolean hour(int h) {
            return h >= 0 && h <= 7;
        }

        int harmWith(int habit, int hour) {
            World w = now.like();
            w.habits.set(habit, w.habits.get(habit).at(hour));
            return w.spend();
        }

        int leastOf(int from, int to, ToIntFunction<Integer> harm) {
            int best = from;
            for (int i = from; i <= to; i++) {
                if (harm.applyAsInt(i) < harm.applyAsInt(best)) {
                    best = i;
                }
            }
            return best;
        }

        int feed(int letter) {
            if (letter < 0) {
                return no(-4);
            }
            if (letter > 255 || text.length() == 96) {
                return no(-6);
            }
            text.append((char) letter);
            return text.length();
        }

        int front() {
            String told = text.toString();
            text.setLength(0);
            for (int i = 0; i < told.length(); i++) {
                Matcher m = FRONT.matcher(told.substring(0, i + 1));
                if (!m.matches() && !m.hitEnd()) {
                    return -1000 - i;
                }
            }
            if (!FRONT.matcher(told).matches()) {
                return -1000 - told.length();
            }
            World w = now.like();
            int place = 0;
            int many = 0;
            for (String one : told.split(";")) {
                w = with(w, one);
                if (w == null) {
                    return -2000 - place;
                }
                place += one.length() + 1;
                many++;
            }
            now = w;
            return many;
        }

        static World with(World w, String one) {
            if (one.charAt(0) == 'f') {
                int storeys = one.charAt(1) - '0';
                int stacks = one.charAt(2) - '0';
                if (storeys < 2 || storeys > 6 || stacks < 1 || stacks > 4) {
                    return null;
                }
                World fresh = new World(storeys, stacks);
                fresh.wind = w.wind;
                fresh.week = w.week;
                return fresh;
            }
            if (one.charAt(0) == 'b') {
                w.wind = "-0+".indexOf(one.charAt(1)) - 1;
                return w;
            }
            if (one.charAt(0) == 'h') {
                String[] parts = one.substring(1).split(",");
                int rest = Integer.parseInt(parts[1]);
                Habit h = new Habit(Integer.parseInt(parts[0]), rest / 100, rest / 10 % 10, rest % 10);
                if (h.tenant >= w.flats.size() || h.kind > 5 || h.hour > 7 || w.habits.size() == 8) {
                    return null;
                }
                w.habits.add(h);
                return w;
            }
            Flat f = w.find(Integer.parseInt(one.substring(1, 3)));
            if (f == null) {
                return null;
            }
            if (one.charAt(0) == 's') {
                f.saucer = one.charAt(3) - '0';
                f.holds = Math.min(f.holds, f.saucer);
            } else if (one.charAt(0) == 'a') {
                f.awning = "-0+".indexOf(one.charAt(3)) - 1;
            } else {
                f.washing = one.charAt(3) - '0';
                f.hung = 0;
                for (char c : one.substring(4).toCharArray()) {
                    f.hung |= 1 << c - '0';
                }
            }
            return w;
        }

        int flat(int flat, int what) {
            Flat f = now.find(flat);
            if (f == null) {
                return no(-1);
            }
            int[] all = {f.saucer, f.holds, f.awning + 1, f.washing, f.hung, f.tenant};
            return what < 0 || what > 5 ? no(-2) : all[what];
        }

        int tenant(int t, int what) {
            if (!tenant(t)) {
                return no(-1);
            }
            int habits = (int) now.habits.stream().filter(h -> h.tenant == t).count();
            int[] all = {now.home(t).number(), now.harm[t], habits};
            return what < 0 || what > 2 ? no(-2) : all[what];
        }

        int anger(int one, int other) {
            return one == other || !tenant(one) || !tenant(other) ? no(-1) : now.anger[one][other];
        }

        int habit(int habit, int what) {
            if (!habit(habit)) {
                return no(-1);
            }
            Habit h = now.habits.get(habit);
            int[] all = {h.tenant, h.kind, h.figure, h.hour};
            return what < 0 || what > 3 ? no(-2) : all[what];
        }

        int put(int habit, int hour) {
            if (!habit(habit)) {
                return no(-1);
            }
            return hour(hour) ? now.habits.set(habit, now.habits.get(habit).at(hour)).hour : no(-2);
        }

        int saucer(int flat, int v) {
            Flat f = now.find(flat);
            if (f == null || v < 0 || v > 9) {
                return no(f == null ? -1 : v < 0 ? -4 : -6);
            }
            int was = f.saucer;
            f.saucer = v;
            f.holds = Math.min(v, f.holds);
            return was;
        }

        int awning(int flat, int v) {
            Flat f = now.find(flat);
            if (f == null || v < -1 || v > 1) {
                return no(f == null ? -1 : v < 0 ? -4 : -6);
            }
            int was = f.awning;
            f.awning = v;
            return was + 1;
        }

        int wash(int flat, int v, int hours) {
            Flat f = now.find(flat);
            if (f == null || v < 0 || hours < 0 || v > 9 || hours > 255) {
                return no(f == null ? -1 : v < 0 || hours < 0 ? -4 : -6);
            }
            int was = f.washing;
            f.washing = v;
            f.hung = hours;
            return was;
        }

        int wind(int v) {
            if (v < -1 || v > 1) {
                return no(v < 0 ? -4 : -6);
            }
            int was = now.wind;
            now.wind = v;
            return was + 1;
        }

        int move(int one, int other) {
            if (one == other || !tenant(one) || !tenant(other)) {
                return no(-1);
            }
            now.swap(one, other);
            return now.home(one).number();
        }

        int rain() {
            int held = 0;
            for (Flat f : now.flats) {
                held += f.holds;
                f.holds = 0;
            }
            return held;
        }

        int steps(int habit, int k) {
            if (!habit(habit) || k < -1) {
                return no(!habit(habit) ? -1 : -4);
            }
            List<Drop> drops = now.like().fall(now.habits.get(habit));
            return k == -1 ? drops.size() : k < drops.size() ? drops.get(k).flat.number() : -9;
        }

        int down(int habit) {
            if (!habit(habit)) {
                return no(-1);
            }
            List<Drop> drops = now.like().fall(now.habits.get(habit));
            return drops.isEmpty() ? -9 : drops.get(drops.size() - 1).flat.number();
        }

        int whom(int flat, int hour) {
            if (now.find(flat) == null || !hour(hour)) {
                return no(now.find(flat) == null ? -1 : -2);
            }
            int bits = 0;
            for (int i = 0; i < now.habits.size(); i++) {
                Habit h = now.habits.get(i);
                for (Flat f = now.onward(now.home(h.tenant), h.kind); f != null; f = now.onward(f, h.kind)) {
                    bits |= h.hour == hour && f.number() == flat ? 1 << i : 0;
                }
            }
            return bits;
        }

        int does(int habit, int t) {
            if (!habit(habit) || !tenant(t)) {
                return no(-1);
            }
            return now.like().fall(now.habits.get(habit)).stream().filter(d -> d.flat.tenant == t)
                    .mapToInt(Drop::harm).sum();
        }

        int harmed(int t, int n) {
            if (t != -1 && !tenant(t) || n < 1 || n > 20) {
                return no(t != -1 && !tenant(t) ? -1 : n < 1 ? -4 : -6);
            }
            World w = now.like();
            int harm = 0;
            for (int i = 0; i < n; i++) {
                int all = w.spend();
                harm += t == -1 ? all : w.done[t];
            }
            return harm;
        }

        int least(int habit, int what) {
            if (!habit(habit) || what < 0 || what > 1) {
                return no(!habit(habit) ? -1 : -2);
            }
            int best = leastOf(0, 7, h -> harmWith(habit, h));
            return what == 0 ? best : harmWith(habit, best);
        }

        int hours(int one, int other, int what) {
            if (one == other || !habit(one) || !habit(other)) {
                return no(-1);
            }
            if (what < 0 || what > 1) {
                return no(-2);
            }
            int least = Integer.MAX_VALUE;
            int best = 0;
            for (int v = 77; v >= 0; v--) {
                if (v % 10 < 8) {
                    World w = now.like();
                    w.habits.set(one, w.habits.get(one).at(v / 10));
                    w.habits.set(other, w.habits.get(other).at(v % 10));
                    int harm = w.spend();
                    if (harm <= least) {
                        least = harm;
                        best = v;
                    }
                }
            }
            return what == 0 ? best : least;
        }

        int hushed(int a, int b) {
            World w = now.like();
            for (int i = 0; i < w.habits.size() && b - a < 7; i++) {
                Habit h = w.habits.get(i);
                if (h.hour >= a && h.hour <= b) {
                    w.habits.set(i, h.at((b + 1) % 8));
                }
            }
            return w.spend();
        }

        int quiet(int a, int b) {
            if (!hour(a) || !hour(b)) {
                return no(-2);
            }
            return b < a ? no(-3) : hushed(a, b);
        }

        int rule() {
            int best = -9;
            int least = now.like().spend() - 1;
            for (int v = 77; v >= 0; v--) {
                if (v % 10 < 8 && v / 10 <= v % 10 && hushed(v / 10, v % 10) <= least) {
                    best = v;
                    least = hushed(v / 10, v % 10);
                }
            }
            return best;
        }

        int hang(int flat) {
            if (now.find(flat) == null) {
                return no(-1);
            }
            return leastOf(0, 7, hour -> {
                World w = now.like();
                w.find(flat).hung = 1 << hour;
                w.spend();
                return w.done[w.find(flat).tenant];
            });
        }

        int big(int flat) {
            if (now.find(flat) == null) {
                return no(-1);
            }
            return leastOf(0, 9, v -> {
                World w = now.like();
                w.find(flat).saucer = v;
                w.find(flat).holds = 0;
                return w.spend();
            });
        }

        World led(int flat, int v) {
            World w = now.like();
            w.find(flat).awning = v;
            w.spend();
            return w;
        }

        int leads(int flat) {
            if (now.find(flat) == null) {
                return no(-1);
            }
            return 1 + leastOf(-1, 1, v -> java.util.stream.IntStream.of(led(flat, v).done).sum());
        }

        int whose(int flat, int v) {
            if (now.find(flat) == null || v < -1 || v > 1) {
                return no(now.find(flat) == null ? -1 : v < 0 ? -4 : -6);
            }
            int bits = 0;
            for (int t = 0; t < 24; t++) {
                bits |= led(flat, v).done[t] > led(flat, 0).done[t] ? 1 << t : 0;
            }
            return bits;
        }

        int[] gains(int habit, int hour) {
            World was = now.like();
            was.spend();
            World then = now.like();
            then.habits.set(habit, then.habits.get(habit).at(hour));
            then.spend();
            int[] gains = new int[24];
            for (int t = 0; t < 24; t++) {
                gains[t] = was.done[t] - then.done[t];
            }
            return gains;
        }

        int deal(int habit, int hour) {
            if (!habit(habit) || !hour(hour)) {
                return 1000000000 - no(!habit(habit) ? -1 : -2);
            }
            Habit h = now.habits.get(habit);
            int[] gains = gains(habit, hour);
            gains[h.tenant] = 0;
            return java.util.stream.IntStream.of(gains).sum() - (hour > h.hour ? hour - h.hour : h.hour - hour);
        }

        int pays(int habit, int hour, int what) {
            if (!habit(habit) || !hour(hour) || what < 0 || what > 1) {
                return no(!habit(habit) ? -1 : -2);
            }
            int[] gains = gains(habit, hour);
            int best = 0;
            for (int t = 23; t >= 0; t--) {
                best = gains[t] >= gains[best] ? t : best;
            }
            return gains[best] <= 0 ? what == 0 ? -9 : 0 : what == 0 ? best : gains[best];
        }

        int climbs() {
            World w = now.like();
            List<Integer> harms = new ArrayList<>();
            for (int i = 0; i < 10; i++) {
                for (int t = 0; t < w.flats.size(); t++) {
                    boolean angry = false;
                    for (int d = 0; d < 24; d++) {
                        angry |= w.anger[t][d] >= 5 && w.latest[t][d];
                    }
                    int me = t;
                    if (angry) {
                        w.habits.replaceAll(h -> h.tenant == me ? h.more() : h);
                    }
                }
                harms.add(w.spend());
            }
            for (int i = 1; i < 10; i++) {
                if (harms.get(i) <= harms.get(i - 1)) {
                    return i;
                }
            }
            return -9;
        }

        int worth(int flat) {
            Flat f = now.find(flat);
            if (f == null) {
                return no(-1);
            }
            World w = now.like();
            w.spend();
            return Math.max(100 + 5 * f.storey - w.done[f.tenant], 0);
        }

        boolean better(int[] who, int[] to) {
            World was = now.like();
            was.spend();
            World w = now.like();
            for (int i = 0; i < who.length; i++) {
                w.find(now.home(to[i]).number()).tenant = who[i];
            }
            w.spend();
            for (int t : who) {
                if (w.done[t] >= was.done[t]) {
                    return false;
                }
            }
            return true;
        }

        int swaps(int what) {
            if (what < 0 || what > 2) {
                return no(-2);
            }
            int all = now.flats.size();
            int pairs = 0;
            int rings = 0;
            int first = -9;
            for (int a = all - 1; a >= 0; a--) {
                for (int b = all - 1; b > a; b--) {
                    if (what < 2 && better(new int[] {a, b}, new int[] {b, a})) {
                        pairs++;
                        first = 100 * a + b;
                    }
                    for (int c = a + 1; c < all && what == 2; c++) {
                        rings += c != b && better(new int[] {a, b, c}, new int[] {b, c, a}) ? 1 : 0;
                    }
                }
            }
            return what == 0 ? pairs : what == 1 ? first : rings;
        }

        long peg(int flat, int t, int part) {
            Flat f = now.find(flat);
            if (f == null || !tenant(t) || part < 0 || part > 1) {
                return 4000000000000000000L - no(f == null || !tenant(t) ? -1 : -2);
            }
            int mine = 0;
            int all = 0;
            for (Flat up = now.find(f.storey + 1, f.stack); up != null; up = now.find(up.storey + 1, up.stack)) {
                int v = up.storey == f.storey + 1 ? 2 : 1;
                all += v;
                mine += up.tenant == t ? v : 0;
            }
            if (mine == 0) {
                return part;
            }
            int common = java.math.BigInteger.valueOf(mine).gcd(java.math.BigInteger.valueOf(all)).intValue();
            return (part == 0 ? mine : all) / common;
        }

        int row(int v) {
            if (v < 0 || v > 999 || row.size() == 10) {
                return no(v < 0 ? -4 : -6);
            }
            row.add(v);
            return row.size();
        }

        int judge() {
            List<Integer> asked = new ArrayList<>(row);
            row.clear();
            World w = now.like();
            for (int i = 0; i < asked.size(); i++) {
                if (asked.get(i) != w.spend()) {
                    return i;
                }
            }
            return -9;
        }

        int seeds(int n, int z) {
            if (n < 1 || n > 20) {
                return no(n < 1 ? -4 : -6);
            }
            World w = now.like();
            long seed = z;
            int harm = 0;
            for (int i = 0; i < n; i++) {
                for (int k = 0; k < w.habits.size(); k++) {
                    seed = (seed * 1103515245L + 12345L) & 0xffffffffL;
                    w.habits.set(k, w.habits.get(k).at((int) ((seed & 0x7fffffffL) / 65536L % 8L)));
                }
                harm += w.spend();
            }
            return harm;
        }

        int image() {
            kept = now.like();
            return now.week;
        }

        int restore() {
            if (kept == null) {
                return no(-3);
            }
            now = kept.like();
            return now.week;
        }

        int count(int what) {
            int anger = 0;
            for (int[] a : now.anger) {
                anger += java.util.stream.IntStream.of(a).sum();
            }
            switch (what) {
                case 0: return now.storeys;
                case 1: return now.stacks;
                case 2: return now.habits.size();
                case 3: return now.week;
                case 4: return now.wind + 1;
                case 5: return now.flats.stream().mapToInt(f -> f.holds).sum();
                case 6: return java.util.stream.IntStream.of(now.harm).sum();
                case 7: return anger;
                case 8: return text.length();
                case 9: return row.size();
                default: return what > 10 && what < 17 ? refused[what - 10] : -9;
            }
        }
    }

    private static final int CALLS = 40;
    private static int wrong = 0;
    private static long asked = 0;
    private static final int[] SEEN = new int[CALLS];

    private final Random random;
    private final DripsOnBelow x = new DripsOnBelow();
    private final Model m = new Model();
    private final StringBuilder log = new StringBuilder();

    private ModelTests(long seed) {
        random = new Random(seed);
    }

    private int upTo(int n) {
        return random.nextInt(n + 1);
    }

    /** Mostly 0 .. n, now and then beside it. */
    private int about(int n) {
        int by = random.nextInt(40);
        return by == 0 ? -1 : by == 1 ? n + 1 : by == 2 ? random.nextInt() : by == 3 ? -2 : upTo(n);
    }

    private int aFlat() {
        return random.nextInt(12) == 0 ? about(60) : 10 * upTo(m.now.storeys - 1) + upTo(m.now.stacks - 1);
    }

    private int aTenant() {
        return about(m.now.flats.size() - 1);
    }

    private int aHabit() {
        return about(m.now.habits.size() - 1 < 0 ? 0 : m.now.habits.size() - 1);
    }

    private void same(String call, long got, long want) {
        asked++;
        log.append(call).append(" = ").append(got).append('\n');
        if (got != want) {
            wrong++;
            if (wrong < 4) {
                System.out.println(log);
                System.out.println("due is " + want);
            }
        }
    }

    private String statement(int storeys, int stacks) {
        String signs = "+-0";
        String flat = "" + upTo(storeys - 1) + upTo(stacks - 1);
        switch (random.nextInt(8)) {
            case 0:
            case 1:
                return "h" + upTo(storeys * stacks - 1) + "," + upTo(5) + upTo(9) + upTo(7) + ";";
            case 2:
                return "s" + flat + upTo(9) + ";";
            case 3:
                return "a" + flat + signs.charAt(upTo(2)) + ";";
            case 4:
                return "b" + signs.charAt(upTo(2)) + ";";
            default:
                StringBuilder hours = new StringBuilder();
                for (int i = upTo(8); i > 0; i--) {
                    hours.append(upTo(7));
                }
                return "w" + flat + upTo(9) + hours + ";";
        }
    }

    private void tell(String text) {
        for (int i = 0; i < text.length(); i++) {
            same("feed(" + (int) text.charAt(i) + ")", x.feed(text.charAt(i)), m.feed(text.charAt(i)));
        }
        same("front()", x.front(), m.front());
    }

    private String someFront(boolean whole) {
        int storeys = m.now.storeys;
        int stacks = m.now.stacks;
        StringBuilder text = new StringBuilder();
        if (whole || random.nextInt(6) == 0) {
            storeys = 2 + upTo(4);
            stacks = 1 + upTo(3);
            text.append("f").append(storeys).append(stacks).append(";");
        }
        for (int i = 1 + upTo(9); i > 0 && text.length() < 80; i--) {
            text.append(statement(storeys, stacks));
        }
        return text.toString();
    }

    /** One letter is another, is gone, or is there twice. */
    private String broken(String text) {
        String letters = "fsawbh;,+-0123456789x ";
        int place = random.nextInt(text.length());
        String other = "" + letters.charAt(random.nextInt(letters.length()));
        int by = random.nextInt(4);
        String middle = by == 0 ? "" : by == 1 ? other : by == 2 ? other + text.charAt(place) : text.substring(place);
        return text.substring(0, place) + middle + (by == 3 ? "" : text.substring(place + 1));
    }

    private void call(int which) {
        SEEN[which]++;
        int a;
        int b;
        int c;
        switch (which) {
            case 0: a = about(255); same("feed(" + a + ")", x.feed(a), m.feed(a)); break;
            case 1: same("front()", x.front(), m.front()); break;
            case 2: a = aFlat(); b = about(5); same("flat(" + a + "," + b + ")", x.flat(a, b), m.flat(a, b)); break;
            case 3: a = aTenant(); b = about(2);
                same("tenant(" + a + "," + b + ")", x.tenant(a, b), m.tenant(a, b)); break;
            case 4: a = aTenant(); b = aTenant();
                same("anger(" + a + "," + b + ")", x.anger(a, b), m.anger(a, b)); break;
            case 5: a = aHabit(); b = about(3);
                same("habit(" + a + "," + b + ")", x.habit(a, b), m.habit(a, b)); break;
            case 6: a = aHabit(); b = about(7); same("put(" + a + "," + b + ")", x.put(a, b), m.put(a, b)); break;
            case 7: a = aFlat(); b = about(9);
                same("saucer(" + a + "," + b + ")", x.saucer(a, b), m.saucer(a, b)); break;
            case 8: a = aFlat(); b = about(3) - 1;
                same("awning(" + a + "," + b + ")", x.awning(a, b), m.awning(a, b)); break;
            case 9: a = aFlat(); b = about(9); c = about(255);
                same("wash(" + a + "," + b + "," + c + ")", x.wash(a, b, c), m.wash(a, b, c)); break;
            case 10: a = about(2) - 1; same("wind(" + a + ")", x.wind(a), m.wind(a)); break;
            case 11: a = aTenant(); b = aTenant();
                same("move(" + a + "," + b + ")", x.move(a, b), m.move(a, b)); break;
            case 12: same("rain()", x.rain(), m.rain()); break;
            case 13: same("week()", x.week(), m.now.spend()); break;
            case 14: a = aHabit(); b = about(6) - 1;
                same("steps(" + a + "," + b + ")", x.steps(a, b), m.steps(a, b)); break;
            case 15: a = aHabit(); same("down(" + a + ")", x.down(a), m.down(a)); break;
            case 16: a = aFlat(); b = about(7); same("whom(" + a + "," + b + ")", x.whom(a, b), m.whom(a, b)); break;
            case 17: a = aHabit(); b = aTenant();
                same("does(" + a + "," + b + ")", x.does(a, b), m.does(a, b)); break;
            case 18: a = aTenant(); b = about(20);
                same("harmed(" + a + "," + b + ")", x.harmed(a, b), m.harmed(a, b)); break;
            case 19: a = aHabit(); b = about(1);
                same("least(" + a + "," + b + ")", x.least(a, b), m.least(a, b)); break;
            default: thought(which); break;
        }
    }

    private void thought(int which) {
        int a;
        int b;
        int c;
        switch (which) {
            case 20: a = aHabit(); b = aHabit(); c = about(1);
                same("hours(" + a + "," + b + "," + c + ")", x.hours(a, b, c), m.hours(a, b, c)); break;
            case 21: a = about(7); b = about(7);
                same("quiet(" + a + "," + b + ")", x.quiet(a, b), m.quiet(a, b)); break;
            case 22: same("rule()", x.rule(), m.rule()); break;
            case 23: a = aFlat(); same("hang(" + a + ")", x.hang(a), m.hang(a)); break;
            case 24: a = aFlat(); same("big(" + a + ")", x.big(a), m.big(a)); break;
            case 25: a = aFlat(); same("leads(" + a + ")", x.leads(a), m.leads(a)); break;
            case 26: a = aFlat(); b = about(2) - 1;
                same("whose(" + a + "," + b + ")", x.whose(a, b), m.whose(a, b)); break;
            case 27: a = aHabit(); b = about(7);
                same("deal(" + a + "," + b + ")", x.deal(a, b), m.deal(a, b)); break;
            case 28: a = aHabit(); b = about(7); c = about(1);
                same("pays(" + a + "," + b + "," + c + ")", x.pays(a, b, c), m.pays(a, b, c)); break;
            case 29: same("climbs()", x.climbs(), m.climbs()); break;
            case 30: a = aFlat(); same("worth(" + a + ")", x.worth(a), m.worth(a)); break;
            case 31: a = random.nextInt(8) > 0 ? upTo(1) : about(2);
                if (a != 2 || m.now.flats.size() < 13) {
                    same("swaps(" + a + ")", x.swaps(a), m.swaps(a));
                }
                break;
            case 32: a = aFlat(); b = aTenant(); c = about(1);
                same("peg(" + a + "," + b + "," + c + ")", x.peg(a, b, c), m.peg(a, b, c)); break;
            case 33: a = random.nextInt(3) > 0 ? m.now.like().spend() : about(999);
                same("row(" + a + ")", x.row(a), m.row(a)); break;
            case 34: same("judge()", x.judge(), m.judge()); break;
            case 35: a = about(20); b = random.nextInt();
                same("seeds(" + a + "," + b + ")", x.seeds(a, b), m.seeds(a, b)); break;
            case 36: same("image()", x.image(), m.image()); break;
            case 37: same("restore()", x.restore(), m.restore()); break;
            default: a = about(17); same("count(" + a + ")", x.count(a), m.count(a)); break;
        }
    }

    private void run() {
        for (int i = 0; i < 3; i++) {
            tell(someFront(i == 0));
        }
        for (int i = 0; i < 150; i++) {
            int by = random.nextInt(60);
            if (by == 0) {
                tell(someFront(false));
            } else if (by < 3) {
                tell(broken(someFront(false)));
            } else if (by < 6) {
                call(13);
            } else {
                call(random.nextInt(CALLS - 1));
            }
        }
        for (int i = -1; i < 18; i++) {
            same("count(" + i + ")", x.count(i), m.count(i));
        }
    }

    /** All hang their washing always and most let something fall, so that changes are worth something. */
    private void crowd() {
        int stacks = 1 + upTo(2);
        int storeys = 3 + upTo(stacks == 1 ? 3 : 1);
        tell("f" + storeys + stacks + ";b" + "+-0".charAt(upTo(2)) + ";");
        for (int storey = 0; storey < storeys; storey++) {
            for (int stack = 0; stack < stacks; stack++) {
                tell("w" + storey + stack + (5 + upTo(4)) + "01234567;");
            }
        }
        for (int i = 0; i < 8; i++) {
            tell("h" + upTo(storeys * stacks - 1) + "," + upTo(5) + upTo(9) + upTo(7) + ";");
        }
        for (int what = 0; what < 3; what++) {
            same("swaps(" + what + ")", x.swaps(what), m.swaps(what));
        }
        same("climbs()", x.climbs(), m.climbs());
    }

    public static void main(String[] args) {
        int runs = args.length > 0 ? Integer.parseInt(args[0]) : 600;
        for (int i = 0; i < runs && wrong == 0; i++) {
            new ModelTests(20261118L + i).run();
            new ModelTests(-20261118L - i).crowd();
        }
        for (int i = 0; i < CALLS - 1; i++) {
            if (SEEN[i] == 0) {
                wrong++;
                System.out.println("call " + i + " was never asked");
            }
        }
        System.out.println(runs + " runs, " + asked + " calls, " + wrong + " not alike");
        if (wrong != 0) {
            System.exit(1);
        }
    }
}
