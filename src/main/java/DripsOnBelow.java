import java.util.Arrays;

/** A front of balconies, the habits of its tenants, and what drips from each on those below. */
public final class DripsOnBelow {
    private static final int MOST_STOREYS = 6;
    private static final int MOST_STACKS = 4;
    private static final int PLACES = MOST_STOREYS * MOST_STACKS;
    private static final int MOST_HABITS = 8;
    private static final int HOURS = 8;
    private static final int ALL_HOURS = 255;
    private static final int MOST_DIGIT = 9;
    private static final int MOST_LETTERS = 96;
    private static final int MOST_LETTER = 255;
    private static final int MOST_ROW = 10;
    private static final int MOST_IN_ROW = 999;
    private static final int MOST_WEEK = 9999;
    private static final int MOST_HARM = 99999;
    private static final int MOST_ANGER = 999;
    private static final int REVENGE = 5;
    private static final int WEEKS_TOLD = 20;
    private static final int WEEKS_CLIMBED = 10;
    private static final int NO_SIGN = -2;
    private static final int WITHOUT_SIGN = 0x7fffffff;

    private static final int BLOWN = 1;
    private static final int LED = 2;
    private static final int HEAVY = 3;
    private static final int RISING = 4;
    private static final int SPITEFUL = 5;

    private static final int NOBODY = -1;
    private static final int OTHER = -2;
    private static final int STATE = -3;
    private static final int BELOW = -4;
    private static final int ROOM = -6;
    private static final int NONE = -9;
    private static final int REFUSALS = 6;
    private static final int DEAL_REFUSED = 1000000000;
    private static final long PEG_REFUSED = 4000000000000000000L;

    private final House now;
    private final House taken;
    private final House trial;
    private final Letters letters;
    private final int[] told;
    private final int[] refusals;
    private final int[] before;
    private int tolds;
    private boolean isTaken;

    public DripsOnBelow() {
        now = new House();
        taken = new House();
        trial = new House();
        letters = new Letters();
        told = new int[MOST_ROW];
        refusals = new int[REFUSALS + 1];
        before = new int[PLACES];
        tolds = 0;
        isTaken = false;
    }

    // ---- rows of numbers, and what is refused ----

    /** Outside the row there is 0, so that no index can fail. */
    private static int get(int[] list, int i) {
        return i >= 0 && i < list.length ? list[i] : 0;
    }

    /** Outside the row nothing is set. */
    private static void set(int[] list, int i, int v) {
        if (i >= 0 && i < list.length) {
            list[i] = v;
        }
    }

    private static void copy(int[] from, int[] to) {
        System.arraycopy(from, 0, to, 0, Math.min(from.length, to.length));
    }

    private static int sum(int[] list) {
        int all = 0;
        for (int i = 0; i < list.length; i++) {
            all += list[i];
        }
        return all;
    }

    private static boolean within(int v, int least, int greatest) {
        return v >= least && v <= greatest;
    }

    private int refuse(int number) {
        set(refusals, -number, get(refusals, -number) + 1);
        return number;
    }

    private boolean isTenant(int tenant) {
        return within(tenant, 0, now.front.tenants() - 1);
    }

    private boolean isHabit(int habit) {
        return within(habit, 0, now.habits.count - 1);
    }

    private static boolean isHour(int hour) {
        return within(hour, 0, HOURS - 1);
    }

    // ---- weeks in mind ----

    /** The trial's ledger is left as it is: but for climbs() only what a week has done is asked of it. */
    private void tryAnew() {
        trial.front.copyFrom(now.front);
        trial.habits.copyFrom(now.habits);
    }

    private int tryAsIs() {
        tryAnew();
        int all = trial.spendWeek();
        copy(trial.ledger.done, before);
        return all;
    }

    private int tryHour(int habit, int hour) {
        tryAnew();
        set(trial.habits.hour, habit, hour);
        return trial.spendWeek();
    }

    private int tryQuiet(int a, int b) {
        tryAnew();
        trial.habits.putOff(a, b);
        return trial.spendWeek();
    }

    private int tryAwning(int place, int v) {
        tryAnew();
        set(trial.front.awning, place, v);
        return trial.spendWeek();
    }

    private int doneTo(int tenant) {
        return get(trial.ledger.done, tenant);
    }

    private int gain(int tenant) {
        return get(before, tenant) - doneTo(tenant);
    }

    // ---- letters ----

    public int feed(int letter) {
        if (letter < 0) {
            return refuse(BELOW);
        }
        if (letter > MOST_LETTER || letters.count >= MOST_LETTERS) {
            return refuse(ROOM);
        }
        return letters.add(letter);
    }

    public int front() {
        int fault = letters.formFault();
        int answer = -1000 - fault;
        if (fault < 0) {
            trial.copyFrom(now);
            answer = letters.tell(trial);
        }
        if (answer >= 0) {
            now.copyFrom(trial);
        }
        letters.count = 0;
        return answer;
    }

    // ---- what is ----

    public int flat(int flat, int what) {
        int place = now.front.placeOf(flat);
        if (place < 0) {
            return refuse(NOBODY);
        }
        switch (what) {
            case 0:
                return get(now.front.saucer, place);
            case 1:
                return get(now.front.holds, place);
            case 2:
                return get(now.front.awning, place) + 1;
            case 3:
                return get(now.front.washing, place);
            case 4:
                return get(now.front.hung, place);
            case 5:
                return get(now.front.lives, place);
            default:
                return refuse(OTHER);
        }
    }

    public int tenant(int tenant, int what) {
        if (!isTenant(tenant)) {
            return refuse(NOBODY);
        }
        switch (what) {
            case 0:
                return Front.flatAt(get(now.front.home, tenant));
            case 1:
                return get(now.ledger.harm, tenant);
            case 2:
                return now.habits.countOf(tenant);
            default:
                return refuse(OTHER);
        }
    }

    public int anger(int one, int other) {
        if (!isTenant(one) || !isTenant(other) || one == other) {
            return refuse(NOBODY);
        }
        return get(now.ledger.anger, Ledger.pair(one, other));
    }

    public int habit(int habit, int what) {
        if (!isHabit(habit)) {
            return refuse(NOBODY);
        }
        switch (what) {
            case 0:
                return get(now.habits.who, habit);
            case 1:
                return get(now.habits.kind, habit);
            case 2:
                return get(now.habits.figure, habit);
            case 3:
                return get(now.habits.hour, habit);
            default:
                return refuse(OTHER);
        }
    }

    public int count(int what) {
        if (within(what, 11, 10 + REFUSALS)) {
            return get(refusals, what - 10);
        }
        switch (what) {
            case 0:
                return now.front.storeys;
            case 1:
                return now.front.stacks;
            case 2:
                return now.habits.count;
            case 3:
                return now.weeks;
            case 4:
                return now.front.wind + 1;
            case 5:
                return sum(now.front.holds);
            case 6:
                return sum(now.ledger.harm);
            case 7:
                return sum(now.ledger.anger);
            case 8:
                return letters.count;
            case 9:
                return tolds;
            default:
                return NONE;
        }
    }

    // ---- what becomes ----

    public int put(int habit, int hour) {
        if (!isHabit(habit)) {
            return refuse(NOBODY);
        }
        if (!isHour(hour)) {
            return refuse(OTHER);
        }
        int was = get(now.habits.hour, habit);
        set(now.habits.hour, habit, hour);
        return was;
    }

    public int saucer(int flat, int v) {
        int place = now.front.placeOf(flat);
        if (place < 0) {
            return refuse(NOBODY);
        }
        if (v < 0) {
            return refuse(BELOW);
        }
        if (v > MOST_DIGIT) {
            return refuse(ROOM);
        }
        int was = get(now.front.saucer, place);
        now.front.setSaucer(place, v);
        return was;
    }

    public int awning(int flat, int v) {
        int place = now.front.placeOf(flat);
        if (place < 0) {
            return refuse(NOBODY);
        }
        if (v < -1) {
            return refuse(BELOW);
        }
        if (v > 1) {
            return refuse(ROOM);
        }
        int was = get(now.front.awning, place);
        set(now.front.awning, place, v);
        return was + 1;
    }

    public int wash(int flat, int v, int hours) {
        int place = now.front.placeOf(flat);
        if (place < 0) {
            return refuse(NOBODY);
        }
        if (v < 0 || hours < 0) {
            return refuse(BELOW);
        }
        if (v > MOST_DIGIT || hours > ALL_HOURS) {
            return refuse(ROOM);
        }
        int was = get(now.front.washing, place);
        now.front.setWashing(place, v, hours);
        return was;
    }

    public int wind(int v) {
        if (v < -1) {
            return refuse(BELOW);
        }
        if (v > 1) {
            return refuse(ROOM);
        }
        int was = now.front.wind;
        now.front.wind = v;
        return was + 1;
    }

    public int move(int one, int other) {
        if (!isTenant(one) || !isTenant(other) || one == other) {
            return refuse(NOBODY);
        }
        now.front.change(one, other);
        return Front.flatAt(get(now.front.home, one));
    }

    public int rain() {
        int held = sum(now.front.holds);
        Arrays.fill(now.front.holds, 0);
        return held;
    }

    public int week() {
        if (now.weeks >= MOST_WEEK) {
            return refuse(ROOM);
        }
        return now.spendWeek();
    }

    // ---- one habit's way ----

    public int steps(int habit, int k) {
        if (!isHabit(habit)) {
            return refuse(NOBODY);
        }
        if (k < -1) {
            return refuse(BELOW);
        }
        Way way = now.follow(habit);
        if (k == -1) {
            return way.count;
        }
        return k < way.count ? Front.flatAt(get(way.places, k)) : NONE;
    }

    public int down(int habit) {
        if (!isHabit(habit)) {
            return refuse(NOBODY);
        }
        Way way = now.follow(habit);
        return way.count > 0 ? Front.flatAt(get(way.places, way.count - 1)) : NONE;
    }

    public int whom(int flat, int hour) {
        int place = now.front.placeOf(flat);
        if (place < 0) {
            return refuse(NOBODY);
        }
        if (!isHour(hour)) {
            return refuse(OTHER);
        }
        int bits = 0;
        for (int i = 0; i < now.habits.count; i++) {
            if (get(now.habits.hour, i) == hour && now.trace(i).comesTo(place)) {
                bits |= 1 << i;
            }
        }
        return bits;
    }

    public int does(int habit, int tenant) {
        if (!isHabit(habit) || !isTenant(tenant)) {
            return refuse(NOBODY);
        }
        Way way = now.follow(habit);
        int harm = 0;
        for (int i = 0; i < way.count; i++) {
            if (get(now.front.lives, get(way.places, i)) == tenant) {
                harm += now.harmAt(habit, i);
            }
        }
        return harm;
    }

    // ---- hours ----

    public int harmed(int tenant, int n) {
        if (tenant != -1 && !isTenant(tenant)) {
            return refuse(NOBODY);
        }
        if (n < 1) {
            return refuse(BELOW);
        }
        if (n > WEEKS_TOLD) {
            return refuse(ROOM);
        }
        tryAnew();
        int harm = 0;
        for (int i = 0; i < n; i++) {
            int all = trial.spendWeek();
            harm += tenant == -1 ? all : doneTo(tenant);
        }
        return harm;
    }

    public int least(int habit, int what) {
        if (!isHabit(habit)) {
            return refuse(NOBODY);
        }
        if (what != 0 && what != 1) {
            return refuse(OTHER);
        }
        int best = 0;
        int least = tryHour(habit, 0);
        for (int hour = 1; hour < HOURS; hour++) {
            int harm = tryHour(habit, hour);
            if (harm < least) {
                least = harm;
                best = hour;
            }
        }
        return what == 0 ? best : least;
    }

    public int hours(int one, int other, int what) {
        if (!isHabit(one) || !isHabit(other) || one == other) {
            return refuse(NOBODY);
        }
        if (what != 0 && what != 1) {
            return refuse(OTHER);
        }
        int best = NONE;
        int least = 0;
        for (int a = 0; a < HOURS; a++) {
            for (int b = 0; b < HOURS; b++) {
                tryAnew();
                set(trial.habits.hour, one, a);
                set(trial.habits.hour, other, b);
                int harm = trial.spendWeek();
                if (best == NONE || harm < least) {
                    least = harm;
                    best = 10 * a + b;
                }
            }
        }
        return what == 0 ? best : least;
    }

    public int quiet(int a, int b) {
        if (!isHour(a) || !isHour(b)) {
            return refuse(OTHER);
        }
        if (b < a) {
            return refuse(STATE);
        }
        return tryQuiet(a, b);
    }

    public int rule() {
        int best = NONE;
        int least = tryAsIs();
        for (int a = 0; a < HOURS; a++) {
            for (int b = a; b < HOURS; b++) {
                int harm = tryQuiet(a, b);
                if (harm < least) {
                    least = harm;
                    best = 10 * a + b;
                }
            }
        }
        return best;
    }

    // ---- what a flat does best ----

    public int hang(int flat) {
        int place = now.front.placeOf(flat);
        if (place < 0) {
            return refuse(NOBODY);
        }
        int tenant = get(now.front.lives, place);
        int best = NONE;
        int least = 0;
        for (int hour = 0; hour < HOURS; hour++) {
            tryAnew();
            set(trial.front.hung, place, 1 << hour);
            trial.spendWeek();
            if (best == NONE || doneTo(tenant) < least) {
                least = doneTo(tenant);
                best = hour;
            }
        }
        return best;
    }

    public int big(int flat) {
        int place = now.front.placeOf(flat);
        if (place < 0) {
            return refuse(NOBODY);
        }
        int best = NONE;
        int least = 0;
        for (int v = 0; v <= MOST_DIGIT; v++) {
            tryAnew();
            set(trial.front.saucer, place, v);
            set(trial.front.holds, place, 0);
            int harm = trial.spendWeek();
            if (best == NONE || harm < least) {
                least = harm;
                best = v;
            }
        }
        return best;
    }

    public int leads(int flat) {
        int place = now.front.placeOf(flat);
        if (place < 0) {
            return refuse(NOBODY);
        }
        int best = -1;
        int least = tryAwning(place, -1);
        for (int v = 0; v <= 1; v++) {
            int harm = tryAwning(place, v);
            if (harm < least) {
                least = harm;
                best = v;
            }
        }
        return best + 1;
    }

    public int whose(int flat, int awning) {
        int place = now.front.placeOf(flat);
        if (place < 0) {
            return refuse(NOBODY);
        }
        if (awning < -1) {
            return refuse(BELOW);
        }
        if (awning > 1) {
            return refuse(ROOM);
        }
        tryAwning(place, 0);
        copy(trial.ledger.done, before);
        tryAwning(place, awning);
        int bits = 0;
        for (int i = 0; i < PLACES; i++) {
            if (gain(i) < 0) {
                bits |= 1 << i;
            }
        }
        return bits;
    }

    // ---- deals, revenge, worth ----

    public int deal(int habit, int hour) {
        if (!isHabit(habit)) {
            return DEAL_REFUSED - refuse(NOBODY);
        }
        if (!isHour(hour)) {
            return DEAL_REFUSED - refuse(OTHER);
        }
        int who = get(now.habits.who, habit);
        int less = tryAsIs() - get(before, who);
        less -= tryHour(habit, hour) - doneTo(who);
        return less - Math.abs(hour - get(now.habits.hour, habit));
    }

    public int pays(int habit, int hour, int what) {
        if (!isHabit(habit)) {
            return refuse(NOBODY);
        }
        if (!isHour(hour) || what != 0 && what != 1) {
            return refuse(OTHER);
        }
        tryAsIs();
        tryHour(habit, hour);
        int best = NONE;
        int most = 0;
        for (int i = 0; i < PLACES; i++) {
            if (gain(i) > most) {
                most = gain(i);
                best = i;
            }
        }
        return what == 0 ? best : most;
    }

    public int climbs() {
        trial.copyFrom(now);
        int ahead = 0;
        for (int i = 0; i < WEEKS_CLIMBED; i++) {
            trial.takeRevenge();
            int harm = trial.spendWeek();
            if (i > 0 && harm <= ahead) {
                return i;
            }
            ahead = harm;
        }
        return NONE;
    }

    public int worth(int flat) {
        int place = now.front.placeOf(flat);
        if (place < 0) {
            return refuse(NOBODY);
        }
        tryAsIs();
        int storey = place / MOST_STACKS;
        return Math.max(0, 100 + 5 * storey - doneTo(get(now.front.lives, place)));
    }

    public int swaps(int what) {
        if (!within(what, 0, 2)) {
            return refuse(OTHER);
        }
        tryAsIs();
        return what == 2 ? rings() : pairs(what == 1);
    }

    /** Who has no harm can't have less: such tenants are passed over, here and in the rings. */
    private int pairs(boolean first) {
        int many = 0;
        for (int a = 0; a < PLACES; a++) {
            for (int b = a + 1; b < PLACES; b++) {
                if (get(before, a) > 0 && get(before, b) > 0) {
                    tryAnew();
                    trial.front.change(a, b);
                    trial.spendWeek();
                    if (gain(a) > 0 && gain(b) > 0) {
                        if (first) {
                            return 100 * a + b;
                        }
                        many++;
                    }
                }
            }
        }
        return first ? NONE : many;
    }

    private int rings() {
        int many = 0;
        for (int a = 0; a < PLACES; a++) {
            for (int b = a + 1; b < PLACES && get(before, a) > 0; b++) {
                for (int c = a + 1; c < PLACES && get(before, b) > 0; c++) {
                    if (c != b && get(before, c) > 0) {
                        tryAnew();
                        trial.front.ring(a, b, c);
                        trial.spendWeek();
                        many += gain(a) > 0 && gain(b) > 0 && gain(c) > 0 ? 1 : 0;
                    }
                }
            }
        }
        return many;
    }

    public long peg(int flat, int tenant, int part) {
        int place = now.front.placeOf(flat);
        if (place < 0 || !isTenant(tenant)) {
            return PEG_REFUSED - refuse(NOBODY);
        }
        if (part != 0 && part != 1) {
            return PEG_REFUSED - refuse(OTHER);
        }
        int storey = place / MOST_STACKS;
        int home = get(now.front.home, tenant);
        int higher = home / MOST_STACKS - storey;
        if (home % MOST_STACKS != place % MOST_STACKS || higher <= 0) {
            return part;
        }
        // the one just above counts twice: all shares are one more than the flats above
        int all = now.front.storeys - storey;
        boolean halves = higher == 1 && all % 2 == 0;
        if (part == 1) {
            return halves ? all / 2 : all;
        }
        return higher == 1 && !halves ? 2 : 1;
    }

    // ---- told weeks, weeks by seeds, the image ----

    public int row(int v) {
        if (v < 0) {
            return refuse(BELOW);
        }
        if (v > MOST_IN_ROW || tolds >= MOST_ROW) {
            return refuse(ROOM);
        }
        set(told, tolds, v);
        tolds++;
        return tolds;
    }

    public int judge() {
        tryAnew();
        int first = NONE;
        for (int i = 0; i < tolds && first == NONE; i++) {
            if (trial.spendWeek() != get(told, i)) {
                first = i;
            }
        }
        tolds = 0;
        return first;
    }

    public int seeds(int n, int z) {
        if (n < 1) {
            return refuse(BELOW);
        }
        if (n > WEEKS_TOLD) {
            return refuse(ROOM);
        }
        tryAnew();
        int seed = z;
        int harm = 0;
        for (int i = 0; i < n; i++) {
            for (int k = 0; k < trial.habits.count; k++) {
                seed = seed * 1103515245 + 12345;
                set(trial.habits.hour, k, (seed & WITHOUT_SIGN) / 65536 % HOURS);
            }
            harm += trial.spendWeek();
        }
        return harm;
    }

    public int image() {
        taken.copyFrom(now);
        isTaken = true;
        return now.weeks;
    }

    public int restore() {
        if (!isTaken) {
            return refuse(STATE);
        }
        now.copyFrom(taken);
        return now.weeks;
    }

    /** The flats and who lives in them; a flat's place in each row is 4 times its storey and its stack. */
    private static final class Front {
        int storeys;
        int stacks;
        int wind;
        final int[] saucer = new int[PLACES];
        final int[] holds = new int[PLACES];
        final int[] awning = new int[PLACES];
        final int[] washing = new int[PLACES];
        final int[] hung = new int[PLACES];
        final int[] lives = new int[PLACES];
        final int[] home = new int[PLACES];

        Front() {
            build(3, 2);
        }

        /** All flats as at first; the wind goes on as it blows. */
        void build(int high, int wide) {
            storeys = high;
            stacks = wide;
            Arrays.fill(saucer, 0);
            Arrays.fill(holds, 0);
            Arrays.fill(awning, 0);
            Arrays.fill(washing, 0);
            Arrays.fill(hung, 0);
            Arrays.fill(lives, -1);
            Arrays.fill(home, -1);
            for (int i = 0; i < high; i++) {
                for (int k = 0; k < wide; k++) {
                    settle(i * wide + k, i * MOST_STACKS + k);
                }
            }
        }

        void copyFrom(Front from) {
            storeys = from.storeys;
            stacks = from.stacks;
            wind = from.wind;
            copy(from.saucer, saucer);
            copy(from.holds, holds);
            copy(from.awning, awning);
            copy(from.washing, washing);
            copy(from.hung, hung);
            copy(from.lives, lives);
            copy(from.home, home);
        }

        int tenants() {
            return storeys * stacks;
        }

        /** -1 where no flat is. */
        int place(int storey, int stack) {
            boolean is = storey >= 0 && storey < storeys && stack >= 0 && stack < stacks;
            return is ? storey * MOST_STACKS + stack : -1;
        }

        int placeOf(int flat) {
            return flat < 0 ? -1 : place(flat / 10, flat % 10);
        }

        static int flatAt(int place) {
            return place / MOST_STACKS * 10 + place % MOST_STACKS;
        }

        void settle(int tenant, int place) {
            set(home, tenant, place);
            set(lives, place, tenant);
        }

        void change(int one, int other) {
            int was = get(home, one);
            settle(one, get(home, other));
            settle(other, was);
        }

        /** a goes to b's flat, b to c's, c to a's. */
        void ring(int a, int b, int c) {
            int was = get(home, a);
            settle(a, get(home, b));
            settle(b, get(home, c));
            settle(c, was);
        }

        void setSaucer(int place, int v) {
            set(saucer, place, v);
            set(holds, place, Math.min(get(holds, place), v));
        }

        void setWashing(int place, int v, int hours) {
            set(washing, place, v);
            set(hung, place, hours);
        }

        void dry() {
            for (int i = 0; i < holds.length; i++) {
                holds[i] = Math.max(0, holds[i] - 1);
            }
        }
    }

    /** What tenants let fall, habit by habit. */
    private static final class Habits {
        int count;
        final int[] who = new int[MOST_HABITS];
        final int[] kind = new int[MOST_HABITS];
        final int[] figure = new int[MOST_HABITS];
        final int[] hour = new int[MOST_HABITS];

        void add(int tenant, int newKind, int newFigure, int newHour) {
            if (count < MOST_HABITS) {
                set(who, count, tenant);
                set(kind, count, newKind);
                set(figure, count, newFigure);
                set(hour, count, newHour);
                count++;
            }
        }

        void copyFrom(Habits from) {
            count = from.count;
            copy(from.who, who);
            copy(from.kind, kind);
            copy(from.figure, figure);
            copy(from.hour, hour);
        }

        int countOf(int tenant) {
            int many = 0;
            for (int i = 0; i < count; i++) {
                many += get(who, i) == tenant ? 1 : 0;
            }
            return many;
        }

        void putOff(int a, int b) {
            if (a == 0 && b == HOURS - 1) {
                return;
            }
            for (int i = 0; i < count; i++) {
                if (within(get(hour, i), a, b)) {
                    set(hour, i, b == HOURS - 1 ? 0 : b + 1);
                }
            }
        }

        void raise(int tenant) {
            for (int i = 0; i < count; i++) {
                if (get(who, i) == tenant) {
                    set(figure, i, Math.min(MOST_DIGIT, get(figure, i) + 1));
                }
            }
        }
    }

    /** Whom what has harmed: so far, and in the latest week. */
    private static final class Ledger {
        final int[] harm = new int[PLACES];
        final int[] anger = new int[PLACES * PLACES];
        final int[] done = new int[PLACES];
        final int[] doers = new int[PLACES];
        int all;

        static int pair(int one, int other) {
            return one * PLACES + other;
        }

        void clear() {
            Arrays.fill(harm, 0);
            Arrays.fill(anger, 0);
            beginWeek();
        }

        void copyFrom(Ledger from) {
            copy(from.harm, harm);
            copy(from.anger, anger);
            copy(from.done, done);
            copy(from.doers, doers);
            all = from.all;
        }

        void beginWeek() {
            Arrays.fill(done, 0);
            Arrays.fill(doers, 0);
            all = 0;
        }

        void note(int tenant, int doer, int v) {
            if (v <= 0) {
                return;
            }
            all += v;
            set(done, tenant, get(done, tenant) + v);
            set(doers, tenant, get(doers, tenant) | 1 << doer);
            set(harm, tenant, Math.min(MOST_HARM, get(harm, tenant) + v));
            if (tenant != doer) {
                int pair = pair(tenant, doer);
                set(anger, pair, Math.min(MOST_ANGER, get(anger, pair) + v));
            }
        }

        boolean isAngry(int tenant) {
            for (int i = 0; i < PLACES; i++) {
                boolean did = (get(doers, tenant) >> i & 1) == 1;
                if (did && get(anger, pair(tenant, i)) >= REVENGE) {
                    return true;
                }
            }
            return false;
        }
    }

    /** One habit's way: the flats it comes to, how much comes to each and how much stays there. */
    private static final class Way {
        final int[] places = new int[MOST_STOREYS];
        final int[] comes = new int[MOST_STOREYS];
        final int[] stays = new int[MOST_STOREYS];
        int count;

        /** Where it goes by its kind alone, whatever falls and whatever is held. */
        void trace(Front front, Habits habits, int habit) {
            count = 0;
            int kind = get(habits.kind, habit);
            int here = next(front, kind, get(front.home, get(habits.who, habit)));
            for (int i = 0; i < MOST_STOREYS && here >= 0; i++) {
                set(places, i, here);
                count = i + 1;
                here = next(front, kind, here);
            }
        }

        /** The way just traced, as the saucers hold: it ends where nothing is left, of figure 0 at once. */
        void hold(Front front, Habits habits, int habit) {
            int kind = get(habits.kind, habit);
            int left = get(habits.figure, habit);
            int most = count;
            count = 0;
            for (int i = 0; i < most && left > 0; i++) {
                int held = Math.min(left, room(front, kind, get(places, i)));
                set(comes, i, left);
                set(stays, i, held);
                count = i + 1;
                left -= held;
            }
        }

        static int next(Front front, int kind, int place) {
            int storey = place / MOST_STACKS;
            int stack = place % MOST_STACKS;
            switch (kind) {
                case BLOWN:
                    return front.place(storey - 1, stack + front.wind);
                case LED:
                    return front.place(storey - 1, stack + get(front.awning, place));
                case RISING:
                    int above = front.place(storey + 1, stack);
                    return get(front.awning, above) != 0 ? -1 : above;
                case SPITEFUL:
                    boolean two = front.wind == 0 && storey >= 2;
                    return front.place(two ? storey - 2 : storey - 1, stack + front.wind);
                default:
                    return front.place(storey - 1, stack);
            }
        }

        static int room(Front front, int kind, int place) {
            if (kind == HEAVY || kind == RISING) {
                return 0;
            }
            int room = Math.max(0, get(front.saucer, place) - get(front.holds, place));
            return kind == SPITEFUL ? room / 2 : room;
        }

        boolean comesTo(int place) {
            for (int i = 0; i < count; i++) {
                if (get(places, i) == place) {
                    return true;
                }
            }
            return false;
        }
    }

    /** All that the image keeps: the front, its habits, harm and anger, the week. */
    private static final class House {
        final Front front = new Front();
        final Habits habits = new Habits();
        final Ledger ledger = new Ledger();
        final Way way = new Way();
        int weeks;

        void copyFrom(House from) {
            front.copyFrom(from.front);
            habits.copyFrom(from.habits);
            ledger.copyFrom(from.ledger);
            weeks = from.weeks;
        }

        void build(int high, int wide) {
            front.build(high, wide);
            habits.count = 0;
            ledger.clear();
        }

        Way follow(int habit) {
            way.trace(front, habits, habit);
            way.hold(front, habits, habit);
            return way;
        }

        /** The way alone; how much comes and stays is not told of it. */
        Way trace(int habit) {
            way.trace(front, habits, habit);
            return way;
        }

        /** The harm at the i-th flat of the way followed last. */
        int harmAt(int habit, int i) {
            int place = get(way.places, i);
            int washing = get(front.washing, place);
            boolean hung = (get(front.hung, place) >> get(habits.hour, habit) & 1) == 1;
            if (washing == 0 || !hung) {
                return 0;
            }
            int plain = Math.min(washing, get(way.comes, i));
            switch (get(habits.kind, habit)) {
                case BLOWN:
                    return plain / 2;
                case HEAVY:
                    return 2 * plain;
                case RISING:
                    return 1;
                case SPITEFUL:
                    return plain / 2 + 2;
                default:
                    return plain;
            }
        }

        void fall(int habit) {
            way.trace(front, habits, habit);
            way.hold(front, habits, habit);
            int doer = get(habits.who, habit);
            for (int i = 0; i < way.count; i++) {
                int place = get(way.places, i);
                ledger.note(get(front.lives, place), doer, harmAt(habit, i));
                set(front.holds, place, get(front.holds, place) + get(way.stays, i));
            }
        }

        int spendWeek() {
            ledger.beginWeek();
            for (int hour = 0; hour < HOURS; hour++) {
                for (int i = 0; i < habits.count; i++) {
                    if (get(habits.hour, i) == hour) {
                        fall(i);
                    }
                }
            }
            front.dry();
            weeks++;
            return ledger.all;
        }

        void takeRevenge() {
            for (int i = 0; i < front.tenants(); i++) {
                if (ledger.isAngry(i)) {
                    habits.raise(i);
                }
            }
        }
    }

    /** The letters that have come, and how they tell a front. */
    private static final class Letters {
        final int[] text = new int[MOST_LETTERS];
        int count;

        int add(int letter) {
            if (count < MOST_LETTERS) {
                set(text, count, letter);
                count++;
            }
            return count;
        }

        /** -1 behind the end. */
        int letter(int place) {
            return place >= 0 && place < count ? get(text, place) : -1;
        }

        /** -1 where no digit is. */
        int digit(int place) {
            int letter = letter(place);
            return within(letter, '0', '9') ? letter - '0' : -1;
        }

        int sign(int place) {
            switch (letter(place)) {
                case '-':
                    return -1;
                case '0':
                    return 0;
                case '+':
                    return 1;
                default:
                    return NO_SIGN;
            }
        }

        /** Asked only without a fault of form; with one of kind 2 the house is left half told. */
        int tell(House house) {
            int many = 0;
            for (int i = 0; i < count; i++) {
                if (i == 0 || letter(i - 1) == ';') {
                    if (!carryOut(i, house)) {
                        return -2000 - i;
                    }
                    many++;
                }
            }
            return many;
        }

        /** The place of the fault of kind 1; -1 if there is none. */
        int formFault() {
            int start = 0;
            for (int i = 0; i < MOST_LETTERS; i++) {
                int end = statementEnd(start);
                if (end < 0) {
                    return -1 - end;
                }
                if (end >= count) {
                    return -1;
                }
                start = end;
            }
            return start;
        }

        /** The place behind the statement that starts there; -1 less the place of its fault, if it has one. */
        int statementEnd(int start) {
            String form = formOf(letter(start));
            int place = form.isEmpty() ? start : start + 1;
            for (int i = 0; i < form.length(); i++) {
                int taken = lengthOf(form.charAt(i), place);
                if (taken < 0) {
                    return -1 - place;
                }
                place += taken;
            }
            return form.isEmpty() ? -1 - place : place;
        }

        /** d a digit, o a digit or none, s a sign, h hours; others stand for themselves. */
        static String formOf(int letter) {
            switch (letter) {
                case 'f':
                    return "dd;";
                case 's':
                    return "ddd;";
                case 'a':
                    return "dds;";
                case 'w':
                    return "dddh;";
                case 'b':
                    return "s;";
                case 'h':
                    return "do,ddd;";
                default:
                    return "";
            }
        }

        /** How many letters from there on are as the sign of the form asks; -1 if they are not so. */
        int lengthOf(char sign, int place) {
            switch (sign) {
                case 'd':
                    return digit(place) >= 0 ? 1 : -1;
                case 'o':
                    return digit(place) >= 0 ? 1 : 0;
                case 's':
                    return sign(place) != NO_SIGN ? 1 : -1;
                case 'h':
                    return hoursFrom(place);
                default:
                    return letter(place) == sign ? 1 : -1;
            }
        }

        int hoursFrom(int place) {
            for (int i = 0; i < HOURS; i++) {
                if (!isHour(digit(place + i))) {
                    return i;
                }
            }
            return HOURS;
        }

        /** The statement that starts there comes, unless it is not as it must be. */
        boolean carryOut(int start, House house) {
            Front front = house.front;
            if (letter(start) == 'b') {
                front.wind = sign(start + 1);
                return true;
            }
            if (letter(start) == 'f') {
                return carryOutFront(start, house);
            }
            if (letter(start) == 'h') {
                return carryOutHabit(start, house);
            }
            int place = front.place(digit(start + 1), digit(start + 2));
            if (place < 0) {
                return false;
            }
            switch (letter(start)) {
                case 's':
                    front.setSaucer(place, digit(start + 3));
                    break;
                case 'a':
                    set(front.awning, place, sign(start + 3));
                    break;
                default:
                    front.setWashing(place, digit(start + 3), hourBits(start + 4));
                    break;
            }
            return true;
        }

        boolean carryOutFront(int start, House house) {
            int high = digit(start + 1);
            int wide = digit(start + 2);
            boolean may = within(high, 2, MOST_STOREYS) && within(wide, 1, MOST_STACKS);
            if (may) {
                house.build(high, wide);
            }
            return may;
        }

        boolean carryOutHabit(int start, House house) {
            boolean longer = digit(start + 2) >= 0;
            int tenant = longer ? 10 * digit(start + 1) + digit(start + 2) : digit(start + 1);
            int behind = longer ? start + 4 : start + 3;
            int kind = digit(behind);
            int hour = digit(behind + 2);
            boolean may = tenant < house.front.tenants() && kind <= SPITEFUL && isHour(hour)
                    && house.habits.count < MOST_HABITS;
            if (may) {
                house.habits.add(tenant, kind, digit(behind + 1), hour);
            }
            return may;
        }

        int hourBits(int place) {
            int bits = 0;
            int many = hoursFrom(place);
            for (int i = 0; i < many; i++) {
                bits |= 1 << digit(place + i);
            }
            return bits;
        }
    }
}
