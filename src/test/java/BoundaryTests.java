import java.util.function.Supplier;

/**
 * Each sentence of the document that names a boundary case, by itself: the least and the greatest that is taken,
 * what is beside them, the empty and the full, what may not grow further, and each refused call with its number.
 * What must leave an object as it is, is asked of it beside a twin that was not asked. No object here is used for
 * more than 512 calls, but where the document's limit lies behind them.
 */
public final class BoundaryTests {
    private static final int MIN = Integer.MIN_VALUE;
    private static final int MAX = Integer.MAX_VALUE;
    private static final int[] NO_FLATS = {MIN, -11, -10, -1, 2, 9, 12, 22, 30, 31, 60, MAX};
    private static final int[] NO_TENANTS = {MIN, -1, 6, 24, MAX};
    private static final int[] NO_HABITS = {MIN, -1, 6, 7, 8, MAX};
    private static final int[] NO_HOURS = {MIN, -1, 8, MAX};
    private static final long DEAL = 1000000000L;
    private static final long PEG = 4000000000000000000L;

    private static int wrong = 0;
    private static int asked = 0;

    private interface Call {
        long on(DripsOnBelow x);
    }

    private static void due(String what, long got, long want) {
        asked++;
        if (got != want) {
            wrong++;
            System.out.println(what + " answered " + got + ", due is " + want);
        }
    }

    private static void dueText(String what, String got, String want) {
        asked++;
        if (!got.equals(want)) {
            wrong++;
            System.out.println(what + ":\n  " + got + "\n  due is\n  " + want);
        }
    }

    // ---- objects to ask ----

    private static void feedAll(DripsOnBelow x, String letters) {
        for (int i = 0; i < letters.length(); i++) {
            x.feed(letters.charAt(i));
        }
    }

    private static int tell(DripsOnBelow x, String letters) {
        feedAll(x, letters);
        return x.front();
    }

    private static DripsOnBelow told(String... parts) {
        DripsOnBelow x = new DripsOnBelow();
        for (String part : parts) {
            due("a front of a test: " + part, tell(x, part) > 0 ? 1 : 0, 1);
        }
        return x;
    }

    /** Three storeys by two stacks, six habits, and something of all that there can be but letters. */
    private static DripsOnBelow settled() {
        DripsOnBelow x = new DripsOnBelow();
        tell(x, "f32;s009;s106;s115;a11-;a20+;w00901234567;w01801234567;w10701234567;w11501234567;b+;");
        tell(x, "h4,050;h5,191;h2,272;h3,383;h0,444;h5,575;");
        x.week();
        x.image();
        x.put(0, 6);
        x.week();
        x.move(1, 3);
        x.row(3);
        x.row(4);
        return x;
    }

    private static DripsOnBelow rich() {
        DripsOnBelow x = settled();
        feedAll(x, "b-;");
        return x;
    }

    private static DripsOnBelow withAllLetters() {
        DripsOnBelow x = new DripsOnBelow();
        for (int i = 0; i < 32; i++) {
            feedAll(x, "b+;");
        }
        return x;
    }

    private static DripsOnBelow withWholeRow() {
        DripsOnBelow x = settled();
        for (int i = 0; i < 8; i++) {
            x.row(i);
        }
        return x;
    }

    // ---- what an object tells of itself ----

    private static void add(StringBuilder text, long v) {
        text.append(v).append(' ');
    }

    /** All that can be seen, but refusals: flats, tenants, anger, habits, counts. */
    private static String seen(DripsOnBelow x) {
        StringBuilder text = new StringBuilder();
        for (int what = 0; what < 10; what++) {
            add(text, x.count(what));
        }
        int stacks = x.count(1);
        int tenants = x.count(0) * stacks;
        for (int i = 0; i < tenants; i++) {
            for (int what = 0; what < 6; what++) {
                add(text, x.flat(10 * (i / stacks) + i % stacks, what));
            }
            for (int what = 0; what < 3; what++) {
                add(text, x.tenant(i, what));
            }
            for (int other = 0; other < tenants; other++) {
                add(text, other == i ? 0 : x.anger(i, other));
            }
        }
        int habits = x.count(2);
        for (int i = 0; i < habits; i++) {
            for (int what = 0; what < 4; what++) {
                add(text, x.habit(i, what));
            }
        }
        return text.toString();
    }

    /** What can be seen only by going on: the letters, the row, the latest week, the image. */
    private static String goesOn(DripsOnBelow x) {
        StringBuilder text = new StringBuilder();
        add(text, x.climbs());
        add(text, x.judge());
        add(text, x.front());
        add(text, x.week());
        add(text, x.count(5));
        add(text, x.restore() < 0 ? -1 : x.count(3));
        return text.append(seen(x)).toString();
    }

    /** How many refusals of each number there are. */
    private static String refused(DripsOnBelow x, int oneLessOf) {
        StringBuilder text = new StringBuilder();
        for (int i = 1; i <= 6; i++) {
            add(text, x.count(10 + i) - (i == -oneLessOf ? 1 : 0));
        }
        return text.toString();
    }

    private static void alike(String what, DripsOnBelow x, DripsOnBelow twin, int number) {
        dueText(what + " counts itself alone", refused(x, number), refused(twin, 0));
        dueText(what + " changes nothing", seen(x), seen(twin));
        dueText(what + " changes nothing that comes", goesOn(x), goesOn(twin));
    }

    /** The call answers this, is counted as that number, and changes nothing. */
    private static void refuses(String what, Supplier<DripsOnBelow> maker, Call call, long answer, int number) {
        DripsOnBelow x = maker.get();
        due(what, call.on(x), answer);
        alike(what, x, maker.get(), number);
    }

    private static void no(String what, int number, Call call) {
        refuses(what, BoundaryTests::rich, call, number, number);
    }

    /** A call that is asked in mind answers some number and leaves all as it is, and no refusal is counted. */
    private static void inMind(String what, Call call) {
        DripsOnBelow x = rich();
        long first = call.on(x);
        due(what + " again", call.on(x), first);
        alike(what, x, rich(), 0);
    }

    // ---- refused calls ----

    private static void noFlats() {
        for (int f : NO_FLATS) {
            no("4: flat " + f, -1, x -> x.flat(f, 0));
            no("4: flat ahead of what " + f, -1, x -> x.flat(f, 6));
            no("9: flat " + f, -1, x -> x.saucer(f, 5));
            no("9: flat ahead of v " + f, -1, x -> x.saucer(f, -1));
            no("9: flat ahead of room " + f, -1, x -> x.saucer(f, 10));
            no("10: flat " + f, -1, x -> x.awning(f, 0));
            no("10: flat ahead of v " + f, -1, x -> x.awning(f, -2));
            no("10: flat ahead of room " + f, -1, x -> x.awning(f, 2));
            no("11: flat " + f, -1, x -> x.wash(f, 1, 1));
            no("11: flat ahead of v " + f, -1, x -> x.wash(f, -1, 1));
            no("11: flat ahead of room " + f, -1, x -> x.wash(f, 1, 256));
            no("18: flat " + f, -1, x -> x.whom(f, 0));
            no("18: flat ahead of hour " + f, -1, x -> x.whom(f, 8));
            no("25: flat " + f, -1, x -> x.hang(f));
            no("26: flat " + f, -1, x -> x.big(f));
            no("27: flat " + f, -1, x -> x.leads(f));
            no("28: flat " + f, -1, x -> x.whose(f, 0));
            no("28: flat ahead of awning " + f, -1, x -> x.whose(f, -2));
            no("28: flat ahead of room " + f, -1, x -> x.whose(f, 2));
            no("32: flat " + f, -1, x -> x.worth(f));
            refuses("34: flat " + f, BoundaryTests::rich, x -> x.peg(f, 0, 0), PEG + 1, -1);
            refuses("34: flat ahead of part " + f, BoundaryTests::rich, x -> x.peg(f, 0, 2), PEG + 1, -1);
        }
    }

    private static void noTenants() {
        for (int t : NO_TENANTS) {
            no("5: tenant " + t, -1, x -> x.tenant(t, 0));
            no("5: tenant ahead of what " + t, -1, x -> x.tenant(t, 3));
            no("6: the one " + t, -1, x -> x.anger(t, 0));
            no("6: the other " + t, -1, x -> x.anger(0, t));
            no("6: both " + t, -1, x -> x.anger(t, t));
            no("13: the one " + t, -1, x -> x.move(t, 0));
            no("13: the other " + t, -1, x -> x.move(0, t));
            no("13: both " + t, -1, x -> x.move(t, t));
            no("19: tenant " + t, -1, x -> x.does(0, t));
            refuses("34: tenant " + t, BoundaryTests::rich, x -> x.peg(0, t, 0), PEG + 1, -1);
            refuses("34: tenant ahead of part " + t, BoundaryTests::rich, x -> x.peg(0, t, -1), PEG + 1, -1);
            if (t != -1) {
                no("20: tenant " + t, -1, x -> x.harmed(t, 1));
                no("20: tenant ahead of n " + t, -1, x -> x.harmed(t, 0));
                no("20: tenant ahead of room " + t, -1, x -> x.harmed(t, 21));
            }
        }
        no("20: tenant -2", -1, x -> x.harmed(-2, 1));
        for (int t = 0; t < 6; t++) {
            int same = t;
            no("6: one twice " + t, -1, x -> x.anger(same, same));
            no("13: one twice " + t, -1, x -> x.move(same, same));
        }
    }

    private static void noHabits() {
        for (int h : NO_HABITS) {
            no("7: habit " + h, -1, x -> x.habit(h, 0));
            no("7: habit ahead of what " + h, -1, x -> x.habit(h, 4));
            no("8: habit " + h, -1, x -> x.put(h, 0));
            no("8: habit ahead of hour " + h, -1, x -> x.put(h, 8));
            no("16: habit " + h, -1, x -> x.steps(h, 0));
            no("16: habit ahead of k " + h, -1, x -> x.steps(h, -2));
            no("17: habit " + h, -1, x -> x.down(h));
            no("19: habit " + h, -1, x -> x.does(h, 0));
            no("19: both " + h, -1, x -> x.does(h, 6));
            no("21: habit " + h, -1, x -> x.least(h, 0));
            no("21: habit ahead of what " + h, -1, x -> x.least(h, 2));
            no("22: the one " + h, -1, x -> x.hours(h, 0, 0));
            no("22: the other " + h, -1, x -> x.hours(0, h, 0));
            no("22: both " + h, -1, x -> x.hours(h, h, 0));
            no("22: habit ahead of what " + h, -1, x -> x.hours(h, 0, 2));
            refuses("29: habit " + h, BoundaryTests::rich, x -> x.deal(h, 0), DEAL + 1, -1);
            refuses("29: habit ahead of hour " + h, BoundaryTests::rich, x -> x.deal(h, 8), DEAL + 1, -1);
            no("30: habit " + h, -1, x -> x.pays(h, 0, 0));
            no("30: habit ahead of hour " + h, -1, x -> x.pays(h, -1, 0));
            no("30: habit ahead of what " + h, -1, x -> x.pays(h, 0, 2));
        }
        for (int h = 0; h < 6; h++) {
            int same = h;
            no("22: one twice " + h, -1, x -> x.hours(same, same, 0));
            no("22: one twice, ahead of what " + h, -1, x -> x.hours(same, same, 2));
        }
    }

    private static void noHours() {
        for (int hour : NO_HOURS) {
            no("8: hour " + hour, -2, x -> x.put(0, hour));
            no("18: hour " + hour, -2, x -> x.whom(0, hour));
            no("23: a " + hour, -2, x -> x.quiet(hour, 7));
            no("23: b " + hour, -2, x -> x.quiet(0, hour));
            no("23: both " + hour, -2, x -> x.quiet(hour, hour));
            no("23: a, ahead of b below a " + hour, -2, x -> x.quiet(hour, 0));
            no("23: b, ahead of b below a " + hour, -2, x -> x.quiet(7, hour));
            refuses("29: hour " + hour, BoundaryTests::rich, x -> x.deal(0, hour), DEAL + 2, -2);
            no("30: hour " + hour, -2, x -> x.pays(0, hour, 0));
            no("30: hour and what " + hour, -2, x -> x.pays(0, hour, 2));
        }
        for (int a = 1; a < 8; a++) {
            int from = a;
            no("23: b just below a " + a, -3, x -> x.quiet(from, from - 1));
            no("23: b 0 below a " + a, -3, x -> x.quiet(from, 0));
        }
    }

    /** Another what: one below the least, one above the greatest, and far from both. */
    private static void otherWhats() {
        for (int by : new int[] {MIN, -1, 1, MAX}) {
            int six = by == 1 ? 6 : by;
            int four = by == 1 ? 4 : by;
            int three = by == 1 ? 3 : by;
            int two = by == 1 ? 2 : by;
            no("4: what " + six, -2, x -> x.flat(0, six));
            no("5: what " + three, -2, x -> x.tenant(0, three));
            no("7: what " + four, -2, x -> x.habit(0, four));
            no("21: what " + two, -2, x -> x.least(0, two));
            no("22: what " + two, -2, x -> x.hours(0, 1, two));
            no("30: what " + two, -2, x -> x.pays(0, 0, two));
            no("33: what " + three, -2, x -> x.swaps(three));
            refuses("34: part " + two, BoundaryTests::rich, x -> x.peg(0, 0, two), PEG + 2, -2);
        }
    }

    private static void belowAndAbove() {
        for (int far : new int[] {0, 1}) {
            int under = far == 1 ? MIN : -1;
            int belowSign = far == 1 ? MIN : -2;
            int belowOne = far == 1 ? MIN : 0;
            no("2: below", -4, x -> x.feed(under));
            no("2: above", -6, x -> x.feed(far == 1 ? MAX : 256));
            no("9: below", -4, x -> x.saucer(0, under));
            no("9: above", -6, x -> x.saucer(0, far == 1 ? MAX : 10));
            no("10: below", -4, x -> x.awning(0, belowSign));
            no("10: above", -6, x -> x.awning(0, far == 1 ? MAX : 2));
            no("11: washing below", -4, x -> x.wash(0, under, 0));
            no("11: hours below", -4, x -> x.wash(0, 0, under));
            no("11: both below", -4, x -> x.wash(0, under, under));
            no("11: washing above", -6, x -> x.wash(0, far == 1 ? MAX : 10, 0));
            no("11: hours above", -6, x -> x.wash(0, 0, far == 1 ? MAX : 256));
            no("11: both above", -6, x -> x.wash(0, 10, 256));
            no("11: below ahead of above", -4, x -> x.wash(0, under, 256));
            no("11: hours below ahead of washing above", -4, x -> x.wash(0, 10, under));
            no("12: below", -4, x -> x.wind(belowSign));
            no("12: above", -6, x -> x.wind(far == 1 ? MAX : 2));
            no("16: k below", -4, x -> x.steps(0, belowSign));
            no("20: n below", -4, x -> x.harmed(0, belowOne));
            no("20: n below, of all", -4, x -> x.harmed(-1, belowOne));
            no("20: n above", -6, x -> x.harmed(0, far == 1 ? MAX : 21));
            no("20: n above, of all", -6, x -> x.harmed(-1, far == 1 ? MAX : 21));
            no("28: below", -4, x -> x.whose(0, belowSign));
            no("28: above", -6, x -> x.whose(0, far == 1 ? MAX : 2));
            no("35: below", -4, x -> x.row(under));
            no("35: above", -6, x -> x.row(far == 1 ? MAX : 1000));
            no("37: n below", -4, x -> x.seeds(belowOne, 1));
            no("37: n above", -6, x -> x.seeds(far == 1 ? MAX : 21, 1));
        }
    }

    private static void noRoom() {
        for (int letter : new int[] {0, 'b', 255, 256, MAX}) {
            refuses("2: of 96 letters, " + letter, BoundaryTests::withAllLetters, x -> x.feed(letter), -6, -6);
        }
        refuses("2: below, of 96 letters", BoundaryTests::withAllLetters, x -> x.feed(-1), -4, -4);
        for (int v : new int[] {0, 999, 1000}) {
            refuses("35: of ten numbers, " + v, BoundaryTests::withWholeRow, x -> x.row(v), -6, -6);
        }
        refuses("35: below, of ten numbers", BoundaryTests::withWholeRow, x -> x.row(-1), -4, -4);
        refuses("39: there is no image", DripsOnBelow::new, x -> x.restore(), -3, -3);
    }

    /** Each number has its own count, each refused call is one more; what count() does not know is none. */
    private static void countsOfRefusals() {
        DripsOnBelow x = new DripsOnBelow();
        for (int i = 1; i <= 40; i++) {
            x.flat(-1, 0);
            due("REFUSALS: -1, " + i, x.count(11), i);
        }
        x.flat(0, 6);
        x.deal(0, 0);
        x.peg(0, 0, 2);
        x.restore();
        x.wind(-2);
        x.wind(2);
        dueText("REFUSALS: each its own", refused(x, 0), "41 2 1 1 0 1 ");
        for (int what : new int[] {MIN, -1, 10, 17, 18, MAX}) {
            due("40: another what " + what, x.count(what), -9);
        }
        dueText("40: another what is no refusal", refused(x, 0), "41 2 1 1 0 1 ");
        x.image();
        x.wind(2);
        x.restore();
        dueText("THE IMAGE: refusals are not of it", refused(x, 0), "41 2 1 1 0 2 ");
        tell(x, "f21;");
        dueText("3: a new front has no part in refusals", refused(x, 0), "41 2 1 1 0 2 ");
    }

    /** "All in mind, from how all is now": whatever is asked with numbers that are taken, nothing changes. */
    private static void allInMind() {
        int[] flats = {0, 1, 10, 11, 20, 21};
        for (int h = 0; h < 6; h++) {
            int i = h;
            inMind("16: steps of " + i, x -> x.steps(i, -1));
            inMind("16: the first flat of " + i, x -> x.steps(i, 0));
            inMind("16: a far flat of " + i, x -> x.steps(i, MAX));
            inMind("17: down of " + i, x -> x.down(i));
            inMind("19: does " + i, x -> x.does(i, 5 - i));
            inMind("18: whom, of flat " + flats[i], x -> x.whom(flats[i], i));
            inMind("20: harmed, of " + i, x -> x.harmed(i, 20));
            inMind("21: least of " + i, x -> x.least(i, 0));
            inMind("21: that harm of " + i, x -> x.least(i, 1));
            inMind("22: hours of " + i, x -> x.hours(i, (i + 1) % 6, 0));
            inMind("22: that harm of " + i, x -> x.hours(i, (i + 1) % 6, 1));
            inMind("23: quiet from " + i, x -> x.quiet(i, 7));
            inMind("23: quiet to " + i, x -> x.quiet(0, i));
            inMind("25: hang of " + flats[i], x -> x.hang(flats[i]));
            inMind("26: big of " + flats[i], x -> x.big(flats[i]));
            inMind("27: leads of " + flats[i], x -> x.leads(flats[i]));
            inMind("28: whose of " + flats[i], x -> x.whose(flats[i], i % 3 - 1));
            inMind("29: deal of " + i, x -> x.deal(i, 7 - i));
            inMind("30: pays, who, of " + i, x -> x.pays(i, 7 - i, 0));
            inMind("30: pays, how much, of " + i, x -> x.pays(i, 7 - i, 1));
            inMind("32: worth of " + flats[i], x -> x.worth(flats[i]));
            inMind("34: peg of " + flats[i], x -> x.peg(flats[i], 5 - i, 1));
        }
        inMind("20: harmed, of all", x -> x.harmed(-1, 20));
        inMind("23: all stay", x -> x.quiet(0, 7));
        inMind("24: rule", x -> x.rule());
        inMind("31: climbs", x -> x.climbs());
        inMind("33: swaps", x -> x.swaps(0));
        inMind("33: the first", x -> x.swaps(1));
        inMind("33: rings", x -> x.swaps(2));
        inMind("37: seeds", x -> x.seeds(20, -1));
    }

    // ---- letters ----

    private static void letterByLetter() {
        DripsOnBelow x = new DripsOnBelow();
        due("2: the least letter", x.feed(0), 1);
        due("2: the greatest letter", x.feed(255), 2);
        for (int i = 3; i <= 96; i++) {
            due("2: how many", x.feed(i), i);
        }
        due("2: 96 are full", x.feed('b'), -6);
        due("2: 96 still", x.count(8), 96);
        due("3: 96 of no front", x.front(), -1000);
        due("3: which are no more", x.count(8), 0);
        due("2: room again", x.feed('b'), 1);
        due("3: 96 of a front", withAllLetters().front(), 32);
        DripsOnBelow y = new DripsOnBelow();
        feedAll(y, "b+;".repeat(31) + "b+");
        due("2: the last", y.feed('+'), 96);
        due("3: a fault at the last of 96", y.front(), -1095);
        feedAll(y, "b+;".repeat(31) + "b+" + ";");
        due("3: 96 are whole", y.front(), 32);
        feedAll(y, "b+;".repeat(30) + "s000;" + "b");
        due("3: 96 and something lacks", y.front(), -1096);
        due("3: the letters are no more", y.count(8), 0);
    }

    /** With each of all 256 letters at each place of a statement: is it a fault, and where. */
    private static void faultsOfForm() {
        String digits = "0123456789";
        String signs = "+-0";
        everyLetter("", "fsawbh", "first");
        everyLetter("f", digits, "storeys");
        everyLetter("f3", digits, "stacks");
        everyLetter("f32", ";", "behind f");
        everyLetter("f32;", "fsawbh", "first of the second");
        everyLetter("s", digits, "storey of s");
        everyLetter("s1", digits, "stack of s");
        everyLetter("s11", digits, "saucer");
        everyLetter("s119", ";", "behind s");
        everyLetter("a", digits, "storey of a");
        everyLetter("a1", digits, "stack of a");
        everyLetter("a11", signs, "awning");
        everyLetter("a11+", ";", "behind a");
        everyLetter("b", signs, "wind");
        everyLetter("b-", ";", "behind b");
        everyLetter("w", digits, "storey of w");
        everyLetter("w1", digits, "stack of w");
        everyLetter("w11", digits, "washing");
        for (int i = 0; i < 8; i++) {
            everyLetter("w119" + "70707070".substring(0, i), "01234567;", "hours, " + i);
        }
        everyLetter("w11970707070", ";", "behind eight hours");
        everyLetter("h", digits, "tenant");
        everyLetter("h0", digits + ",", "tenant's second digit");
        everyLetter("h05", ",", "behind the tenant");
        everyLetter("h5,", digits, "kind");
        everyLetter("h5,1", digits, "figure");
        everyLetter("h5,19", digits, "hour");
        everyLetter("h5,197", ";", "behind h");
    }

    private static void everyLetter(String ahead, String fits, String what) {
        for (int letter = 0; letter < 256; letter++) {
            DripsOnBelow x = new DripsOnBelow();
            feedAll(x, ahead);
            x.feed(letter);
            int got = x.front();
            boolean fit = fits.indexOf(letter) >= 0;
            if (!fit) {
                due("3: " + what + ", the letter " + letter, got, -1000 - ahead.length());
            } else if (letter != ';') {
                due("3: something lacks behind " + what + ", " + letter, got, -1001 - ahead.length());
            } else {
                due("3: whole: " + ahead + ";", got > 0 ? 1 : 0, 1);
            }
            due("3: no letters then", x.count(8), 0);
        }
    }

    private static void numbersOfAFront() {
        for (int high = 0; high < 10; high++) {
            for (int wide = 0; wide < 10; wide++) {
                DripsOnBelow x = new DripsOnBelow();
                boolean may = high >= 2 && high <= 6 && wide >= 1 && wide <= 4;
                due("3: f" + high + wide, tell(x, "f" + high + wide + ";"), may ? 1 : -2000);
                due("3: storeys of " + high + wide, x.count(0), may ? high : 3);
                due("3: stacks of " + high + wide, x.count(1), may ? wide : 2);
            }
        }
        for (int v = 0; v < 10; v++) {
            DripsOnBelow x = new DripsOnBelow();
            due("3: saucer " + v, tell(x, "s21" + v + ";"), 1);
            due("3: saucer is " + v, x.flat(21, 0), v);
            due("3: washing " + v, tell(x, "w21" + v + ";"), 1);
            due("3: washing is " + v, x.flat(21, 3), v);
            due("3: of no hours", x.flat(21, 4), 0);
            boolean isKind = v <= 5;
            due("3: kind " + v, tell(x, "h0," + v + "00;"), isKind ? 1 : -2000);
            due("3: kind is " + v, isKind ? x.habit(0, 1) : x.count(2), isKind ? v : 0);
        }
        for (int v = 0; v < 10; v++) {
            DripsOnBelow x = new DripsOnBelow();
            due("3: figure " + v, tell(x, "h0,0" + v + "0;"), 1);
            due("3: figure is " + v, x.habit(0, 2), v);
            boolean isHour = v <= 7;
            due("3: hour " + v, tell(x, "h0,00" + v + ";"), isHour ? 1 : -2000);
            due("3: hour is " + v, isHour ? x.habit(1, 3) : x.count(2), isHour ? v : 1);
            due("3: hung at " + v, tell(x, "w001" + v + ";"), isHour ? 1 : -1004);
            due("3: that hour alone " + v, x.flat(0, 4), isHour ? 1 << v : 0);
        }
        DripsOnBelow x = told("w00901234567;w01977777777;w109;");
        due("3: eight hours", x.flat(0, 4), 255);
        due("3: one hour eight times", x.flat(1, 4), 128);
        due("3: a ninth", tell(x, "w00912345670;w009012345670;"), -1025);
        due("3: nothing of it comes", x.flat(0, 4), 255);
    }

    /** Every FLAT of two digits and every TENANT of one or two, in the least front, the first, the greatest. */
    private static void namesOfAFront() {
        for (int size : new int[] {21, 32, 64}) {
            int high = size / 10;
            int wide = size % 10;
            for (int flat = 0; flat < 100; flat++) {
                boolean is = flat / 10 < high && flat % 10 < wide;
                String two = (flat < 10 ? "0" : "") + flat;
                DripsOnBelow x = told("f" + size + ";");
                due("3: s of " + two + " in " + size, tell(x, "s" + two + "5;"), is ? 1 : -2000);
                due("3: a of " + two + " in " + size, tell(x, "a" + two + "+;"), is ? 1 : -2000);
                due("3: w of " + two + " in " + size, tell(x, "w" + two + "70;"), is ? 1 : -2000);
                due("4: saucer of " + two + " in " + size, x.flat(flat, 0), is ? 5 : -1);
                due("4: awning of " + two + " in " + size, x.flat(flat, 2), is ? 2 : -1);
                due("4: washing of " + two + " in " + size, x.flat(flat, 3), is ? 7 : -1);
                due("4: hung of " + two + " in " + size, x.flat(flat, 4), is ? 1 : -1);
                due("4: tenant of " + two + " in " + size, x.flat(flat, 5), is ? flat / 10 * wide + flat % 10 : -1);
                boolean lives = flat < high * wide;
                due("3: h of " + two + " in " + size, tell(x, "h" + two + ",000;"), lives ? 1 : -2000);
                due("3: h of " + flat + " in " + size, tell(x, "h" + flat + ",000;"), lives ? 1 : -2000);
                due("5: habits of " + flat + " in " + size, x.tenant(flat, 2), lives ? 2 : -1);
                due("5: flat of " + flat + " in " + size, x.tenant(flat, 0),
                        lives ? flat / wide * 10 + flat % wide : -1);
            }
        }
    }

    private static void roomForHabits() {
        for (int many = 0; many <= 8; many++) {
            DripsOnBelow x = told("b0;" + "h0,000;".repeat(many));
            due("3: habits", x.count(2), many);
            due("3: the last", x.habit(many - 1, 3), many == 0 ? -1 : 0);
            due("3: one behind it", x.habit(many, 3), -1);
            due("3: one more", tell(x, "h1,121;"), many < 8 ? 1 : -2000);
            due("3: is there, if there was room", x.count(2), many < 8 ? many + 1 : 8);
            int room = Math.max(0, 7 - many);
            due("3: eight more", tell(x, "b-;" + "h1,121;".repeat(8)), -2003 - 7 * room);
            due("3: with a fault nothing comes", x.count(4), 1);
            due("3: all of eight behind a new front", tell(x, "f32;" + "h5,595;".repeat(8)), 9);
            due("3: eight", x.count(2), 8);
        }
    }

    /** "With one nothing": whatever the fault, all stays, and it is not counted. */
    private static void faultsChangeNothing() {
        String[] text = {"", ";", "f", "f64", "f64;x", "b-;s119", "f64;f65;", "f12;", "f71;", "f30;", "f35;", "b-;s305;",
            "b-;s025;", "b0;a22+;", "s000;w6090;", "w001;h6,000;", "w001;h0,600;", "w001;h0,008;", "h0,000;h0,000;h0,000;",
            "f64;h24,000;", "f64;s640;", "f64;w549;", "f21;h2,000;b-;", "b-;w0098;"};
        int[] fault = {-1000, -1000, -1001, -1003, -1004, -1007, -2004, -2000, -2000, -2000, -2000, -2003,
            -2003, -2003, -2005, -2005, -2005, -2005, -2014,
            -2004, -2004, -2004, -2004, -1007};
        for (int i = 0; i < text.length; i++) {
            DripsOnBelow x = settled();
            due("3: fault of " + text[i], tell(x, text[i]), fault[i]);
            alike("3: a fault of " + text[i], x, settled(), 0);
        }
        due("3: of both kinds the first kind", tell(new DripsOnBelow(), "f99;s99x"), -1007);
        due("3: and where the second is behind", tell(new DripsOnBelow(), "xf99;"), -1000);
        due("3: of several the first", tell(new DripsOnBelow(), "b+;s990;f99;"), -2003);
        due("3: behind all ahead of it", tell(new DripsOnBelow(), "s210;f21;s210;"), -2009);
        due("3: what is no flat at first can be one then", tell(new DripsOnBelow(), "f64;s539;h23,597;"), 3);
        due("3: the same without it", tell(new DripsOnBelow(), "s539;f64;"), -2000);
    }

    /** What "f" makes as at first, and what it leaves. */
    private static void anewFront() {
        DripsOnBelow x = settled();
        due("3: the latest of harm", x.count(6) > 0 && x.count(7) > 0 && x.count(5) > 0 ? 1 : 0, 1);
        due("3: as it is", tell(x, "f32;"), 1);
        int[] want = {3, 2, 0, 2, 2, 0, 0, 0, 0, 2};
        for (int what = 0; what < 10; what++) {
            due("3: count " + what + " of a new front", x.count(what), want[what]);
        }
        x.wind(0);
        DripsOnBelow y = new DripsOnBelow();
        y.week();
        y.week();
        y.row(3);
        y.row(4);
        dueText("3: all else as at first", seen(x), seen(y));
        due("3: the image is kept", x.restore(), 1);
        due("3: with its habits", x.count(2), 6);
    }

    /** Habits that are no more let nothing fall, whatever is told behind them. */
    private static void noHabitsOfBefore() {
        String washing = "w00901234567;w01901234567;w10901234567;w11901234567;";
        for (int many = 0; many < 8; many++) {
            DripsOnBelow x = told("f32;" + "h4,090;h4,091;".repeat(4));
            due("3: a new front", tell(x, "f32;" + washing), 5);
            due("3: of as many habits", tell(x, "b0;" + "h5,000;".repeat(many)), 1 + many);
            due("3: harm by " + many + " of nothing", x.week(), 0);
            due("3: in mind as well", x.harmed(-1, 20) + x.quiet(0, 6) + x.seeds(20, 1) + x.swaps(0), 0);
            due("3: nor do they climb", x.climbs(), 1);
            for (int hour = 0; hour < 8; hour++) {
                due("3: nor come to a flat at " + hour, x.whom(10, hour) + x.whom(0, hour), 0);
            }
            due("3: of the tenant there are none", x.tenant(4, 2), 0);
            due("3: the one behind the last", x.steps(many, -1), -1);
        }
    }

    // ---- what is put, at its least and greatest ----

    private static void putAtEdges() {
        DripsOnBelow x = told("f21;s009;h1,090;h1,090;h1,090;h1,090;h1,090;h1,090;h1,090;h1,093;");
        due("8: the last habit to the last hour", x.put(7, 7), 3);
        due("8: to the first", x.put(7, 0), 7);
        due("8: to where it is", x.put(7, 0), 0);
        due("8: it is there", x.habit(7, 3), 0);
        due("8: the first habit", x.put(0, 7), 0);
        due("8: the others stay", x.habit(1, 3) + x.habit(7, 3), 0);
        x.week();
        due("9: full, less 1", x.flat(0, 1), 8);
        due("9: to what it holds", x.saucer(0, 8), 9);
        due("9: it holds all", x.flat(0, 1), 8);
        due("9: to one less", x.saucer(0, 7), 8);
        due("9: it holds that", x.flat(0, 1), 7);
        due("9: to none", x.saucer(0, 0), 7);
        due("9: it holds nothing", x.flat(0, 1), 0);
        due("9: to the greatest", x.saucer(0, 9), 0);
        due("9: it holds nothing still", x.flat(0, 0) * 10 + x.flat(0, 1), 90);
        for (int v = -1; v <= 1; v++) {
            for (int then = -1; then <= 1; then++) {
                x.awning(10, v);
                due("10: of " + v + ", then " + then, x.awning(10, then) * 10 + x.flat(10, 2), v * 10 + then + 11);
                x.wind(v);
                due("12: of " + v + ", then " + then, x.wind(then) * 10 + x.count(4), v * 10 + then + 11);
            }
        }
        int[] hours = {0, 1, 128, 254, 255};
        for (int v : new int[] {0, 1, 9}) {
            for (int bits : hours) {
                x.wash(10, v, bits);
                due("11: washing " + v, x.flat(10, 3), v);
                due("11: hung " + bits, x.flat(10, 4), bits);
                due("11: what it was", x.wash(10, 5, 77), v);
            }
        }
        due("11: another flat's", x.flat(0, 3) + x.flat(0, 4), 0);
    }

    private static void moves() {
        DripsOnBelow x = told("f64;");
        due("13: the first and the last", x.move(0, 23), 53);
        due("13: the last is at the first", x.tenant(23, 0) * 100 + x.flat(0, 5), 23);
        due("13: back, by the other", x.move(23, 0), 53);
        due("13: both are at home", x.tenant(0, 0) * 100 + x.flat(53, 5), 23);
        for (int i = 0; i < 24; i++) {
            due("13: all are at home", x.tenant(i, 0), i / 4 * 10 + i % 4);
        }
        DripsOnBelow y = told("f21;");
        due("13: of two", y.move(1, 0), 0);
        due("13: changed", y.flat(0, 5) * 10 + y.flat(10, 5), 10);
    }

    private static void rains() {
        DripsOnBelow x = new DripsOnBelow();
        due("14: nothing is held", x.rain(), 0);
        x = told("f64;" + "s309;s209;s109;s009;s029;", "h20,390;h20,070;h16,091;h12,092;h22,093;h22,090;");
        x.week();
        // 30 is full by 7 and 2, 20 by 7 and 2, 02 by 9; 10 has 7; then each has 1 less
        due("14: held", x.count(5), 8 + 8 + 6 + 8);
        due("14: how much they held", x.rain(), 8 + 8 + 6 + 8);
        due("14: all hold nothing", x.count(5), 0);
        due("14: nor again", x.rain(), 0);
        due("14: the saucers are there", x.flat(0, 0) + x.flat(30, 0), 18);
    }

    // ---- weeks, and what may not grow ----

    private static void dryWeeks() {
        DripsOnBelow x = told("s002;h2,020;");
        due("15: no washing", x.week(), 0);
        due("15: 2 held, 1 less", x.flat(0, 1), 1);
        x.move(2, 1);
        x.week();
        due("15: 1 less", x.flat(0, 1), 0);
        x.week();
        due("15: 0 at least", x.flat(0, 1) + x.count(5), 0);
        due("15: one more each", x.count(3), 3);
    }

    private static void angerAtItsLimit() {
        // 27 a week by tenant 1: 37 weeks of it are 999
        DripsOnBelow x = told("f21;w00901234567;h1,090;h1,391;");
        for (int i = 1; i <= 40; i++) {
            due("15: harm of a week", x.week(), 27);
            due("15: anger of " + i, x.anger(0, 1), Math.min(999, 27 * i));
            due("15: harm of " + i, x.tenant(0, 1), 27 * i);
            due("40: all anger", x.count(7), Math.min(999, 27 * i));
        }
        // 37 a week: 27 weeks are 999; 40 a week: 24 are 960
        for (int size : new int[] {37, 40}) {
            DripsOnBelow y = told("f21;w00901234567;h1,390;h1,391;h1,0" + (size == 37 ? "12" : "42") + ";");
            for (int i = 1; i <= 30; i++) {
                y.week();
                due("15: anger of " + i + " by " + size, y.anger(0, 1), Math.min(999, size * i));
            }
        }
        // two whom it is angry at, each for itself
        DripsOnBelow z = told("f31;w00901234567;h1,390;h1,391;h1,392;h2,093;");
        for (int i = 1; i <= 112; i++) {
            z.week();
        }
        due("15: anger at one at its limit", z.anger(0, 1), 999);
        due("15: at the other 9 a week, at its limit", z.anger(0, 2), 999);
        due("15: all anger", z.count(7), 1998);
        due("15: none at itself, none back", z.anger(1, 0) + z.anger(2, 0), 0);
    }

    /** Behind 512 calls: the document's limits of HARM and of WEEK lie there. */
    private static void harmAndWeekAtTheirLimits() {
        // 41 a week: 2439 weeks are 99999; 42 a week: 2380 are 99960
        for (int size : new int[] {41, 42}) {
            DripsOnBelow x = told("f21;w00901234567;h1,390;h1,391;h1,0" + (size - 36) + "2;");
            int last = 99999 / size;
            for (int i = 1; i <= last; i++) {
                x.week();
            }
            due("15: harm of " + last + " weeks", x.tenant(0, 1), size * last);
            due("15: the week's own is not cut", x.week(), size);
            due("15: harm at its limit", x.tenant(0, 1), 99999);
            due("15: harm no more", x.week() * 100000 + x.tenant(0, 1), size * 100000 + 99999);
            due("40: all harm", x.count(6), 99999);
            due("15: the other's harm", x.tenant(1, 1), 0);
            due("20: in mind it is not cut", x.harmed(0, 20), size * 20);
            due("20: nor of all", x.harmed(-1, 20), size * 20);
            for (int i = last + 2; i < 9998; i++) {
                x.week();
            }
            due("15: ahead of the last week", x.count(3), 9998);
            due("15: it is taken", x.week(), size);
            due("15: the last week", x.count(3), 9999);
            String seen = seen(x);
            due("15: no room", x.week(), -6);
            due("15: nor again", x.week(), -6);
            dueText("15: nothing changes", seen(x), seen);
            dueText("15: it is counted", refused(x, 0), "0 0 0 0 0 2 ");
            due("20: in mind weeks go on", x.harmed(-1, 20), size * 20);
            due("37: so with seeds", x.seeds(20, 3) > 0 ? 1 : 0, 1);
            due("31: so with revenge", x.climbs(), 1);
            due("38: the last week's image", x.image(), 9999);
            tell(x, "f21;");
            due("15: a new front has no more", x.week(), -6);
            due("39: restored", x.restore(), 9999);
            due("39: as it was", x.week() * 100000 + x.count(6), -6 * 100000 + 99999);
        }
    }

    // ---- ways ----

    /** From each flat of each front, by each kind and wind: how many flats till the ground, the top, the side. */
    private static void endsOfWays() {
        for (int high = 2; high <= 6; high++) {
            for (int wide = 1; wide <= 4; wide++) {
                for (int wind = -1; wind <= 1; wind++) {
                    for (int i = 0; i < high * wide; i++) {
                        endsOfWaysFrom(high, wide, wind, i);
                    }
                }
            }
        }
    }

    private static void endsOfWaysFrom(int high, int wide, int wind, int tenant) {
        StringBuilder text = new StringBuilder("f");
        text.append(high).append(wide).append(";b").append("-0+".charAt(wind + 1));
        for (int kind = 0; kind <= 5; kind++) {
            text.append(";h").append(tenant).append(',').append(kind).append("1").append(kind);
        }
        DripsOnBelow x = told(text.append(';').toString());
        int storey = tenant / wide;
        int stack = tenant % wide;
        int aside = wind == 0 ? storey : wind < 0 ? Math.min(storey, stack) : Math.min(storey, wide - 1 - stack);
        int spite = wind == 0 ? (storey + 1) / 2 : aside;
        int[] many = {storey, aside, storey, storey, high - 1 - storey, spite};
        int here = 10 * storey + stack;
        int blown = here - aside * 10 + aside * wind;
        int[] last = {stack, blown, stack, stack, 10 * (high - 1) + stack, wind == 0 ? stack : blown};
        for (int kind = 0; kind <= 5; kind++) {
            String what = "WAY of kind " + kind + " from " + here + " of " + high + wide + " by wind " + wind;
            due("16: " + what, x.steps(kind, -1), many[kind]);
            due("17: " + what, x.down(kind), many[kind] == 0 ? -9 : last[kind]);
            due("16: the last, " + what, x.steps(kind, Math.max(0, many[kind] - 1)), many[kind] == 0 ? -9 : last[kind]);
            due("16: one behind the last, " + what, x.steps(kind, many[kind]), -9);
            due("18: not where it starts, " + what, x.whom(here, kind), 0);
            if (many[kind] > 0) {
                due("18: " + what, x.whom(last[kind], kind), 1 << kind);
                due("18: an hour before, " + what, x.whom(last[kind], (kind + 7) % 8) >> kind & 1, 0);
            }
        }
    }

    private static void awningsOnTheWay() {
        for (int v = -1; v <= 1; v++) {
            DripsOnBelow x = told("f43;h10,230;h1,431;h4,432;h10,033;h10,134;h10,535;");
            x.awning(31, v);
            x.awning(21, v);
            x.awning(11, v);
            due("LED: aside, then as that one has none, " + v, x.steps(0, 0), 21 + v);
            due("LED: to the ground, " + v, x.steps(0, 1) * 100 + x.down(0), v == 0 ? 1101 : (11 + v) * 100 + 1 + v);
            due("RISING: ahead of an awning, " + v, x.steps(1, -1), v == 0 ? 3 : 0);
            due("RISING: down, " + v, x.down(1), v == 0 ? 31 : -9);
            due("RISING: from below an awning, its own has no part, " + v, x.steps(2, -1), v == 0 ? 2 : 0);
            due("FALL, BLOWN, SPITEFUL: awnings have no part, " + v, x.down(3) * 10000 + x.down(4) * 100 + x.down(5), 10101);
            x.awning(21, 0);
            due("RISING: till below the last awning, " + v, x.steps(2, -1), v == 0 ? 2 : 1);
            x.awning(31, 0);
            due("RISING: to the top, " + v, x.steps(2, -1), 2);
            x.awning(20, v);
            x.awning(32, v);
            due("LED, RISING: awnings aside have no part, " + v, x.steps(0, 0) * 10 + x.steps(2, -1), 212);
        }
        DripsOnBelow x = told("f24;h4,290;h5,290;h7,290;h6,290;a10-;a11-;a13+;a12+;");
        due("LED: over the lesser side", x.steps(0, -1), 0);
        due("LED: to the least stack", x.steps(1, -1) * 100 + x.down(1), 100);
        due("LED: over the greater side", x.steps(2, -1), 0);
        due("LED: to the greatest stack", x.steps(3, -1) * 100 + x.down(3), 103);
    }

    // ---- what is held, what harms ----

    private static int pours(int kind, int figure, int saucer, String ask) {
        DripsOnBelow x = told("f31;b0;s10" + saucer + ";w0090;h2," + kind + figure + "0;");
        if (ask.equals("steps")) {
            return x.steps(0, -1);
        }
        if (ask.equals("down")) {
            return x.down(0);
        }
        x.week();
        return x.flat(10, 1);
    }

    /** FALL and LED, by every figure and saucer: held is the lesser; of nothing left it ends there. */
    private static void held() {
        for (int figure = 0; figure <= 9; figure++) {
            for (int saucer = 0; saucer <= 9; saucer++) {
                String what = " of " + figure + " by a saucer of " + saucer;
                int steps = figure == 0 ? 0 : figure <= saucer ? 1 : 2;
                int down = figure == 0 ? -9 : figure <= saucer ? 10 : 0;
                for (int kind : new int[] {0, 2}) {
                    due("16: kind " + kind + what, pours(kind, figure, saucer, "steps"), steps);
                    due("17: kind " + kind + what, pours(kind, figure, saucer, "down"), down);
                    due("HOLDS: kind " + kind + what, pours(kind, figure, saucer, "held"),
                            Math.max(0, Math.min(figure, saucer) - 1));
                }
                due("16: HEAVY" + what, pours(3, figure, saucer, "steps"), figure == 0 ? 0 : 2);
                due("HOLDS: HEAVY" + what, pours(3, figure, saucer, "held"), 0);
            }
        }
        for (int room = 0; room <= 9; room++) {
            for (int figure = 1; figure <= 9; figure++) {
                DripsOnBelow x = told("f41;b0;s10" + room + ";w0090;w1090;h3,5" + figure + "0;");
                int half = room / 2;
                int harm = figure / 2 + 2 + (figure > half ? (figure - half) / 2 + 2 : 0);
                due("SPITEFUL: harm of " + figure + " by half of " + room, x.week(), harm);
                due("SPITEFUL: holds of " + figure + " half of " + room, x.flat(10, 1), Math.max(0, Math.min(half, figure) - 1));
            }
        }
        DripsOnBelow x = told("f21;s001;s109;h0,490;");
        x.week();
        due("HOLDS: RISING nothing", x.count(5), 0);
    }

    /** By every figure and washing, of each kind: what comes, half, twice, 1, and 2 more. */
    private static void harmOfEach() {
        for (int figure = 0; figure <= 9; figure++) {
            for (int washing = 0; washing <= 9; washing++) {
                DripsOnBelow x = told("f21;w00" + washing + "0;w10" + washing + "1;h1,0" + figure + "0;h1,1" + figure
                        + "0;h1,2" + figure + "0;h1,3" + figure + "0;h0,4" + figure + "1;h1,5" + figure + "0;");
                int least = Math.min(figure, washing);
                boolean is = figure > 0 && washing > 0;
                int[] harm = {least, least / 2, least, 2 * least, is ? 1 : 0, is ? least / 2 + 2 : 0};
                int all = 0;
                for (int kind = 0; kind <= 5; kind++) {
                    due("19: kind " + kind + " of " + figure + " on " + washing, x.does(kind, kind == 4 ? 1 : 0), harm[kind]);
                    due("19: not to its own, kind " + kind, x.does(kind, kind == 4 ? 0 : 1), 0);
                    all += harm[kind];
                }
                due("15: all of " + figure + " on " + washing, x.week(), all);
                due("15: of one", x.tenant(0, 1), all - harm[4]);
                due("15: of the other", x.tenant(1, 1), harm[4]);
                due("6: anger at one", x.anger(0, 1), all - harm[4]);
                due("6: anger at the other", x.anger(1, 0), harm[4]);
            }
        }
    }

    /** HUNG at an hour alone, and at all but one. */
    private static void hungAtTheHour() {
        for (int hour = 0; hour < 8; hour++) {
            DripsOnBelow x = told("f21;w009;h1,09" + hour + ";");
            due("HARM: hung at none, of " + hour, x.does(0, 0), 0);
            for (int other = 0; other < 8; other++) {
                x.wash(0, 9, 1 << other);
                due("HARM: at " + hour + ", hung at " + other, x.does(0, 0), hour == other ? 9 : 0);
                due("20: at " + hour + ", hung at " + other, x.harmed(0, 1), hour == other ? 9 : 0);
            }
            x.wash(0, 9, 255 - (1 << hour));
            due("HARM: hung at all but " + hour, x.does(0, 0) + x.harmed(-1, 1), 0);
        }
    }

    /** Of two at one hour the lesser number comes first, of two hours the lesser hour. */
    private static void orderOfAWeek() {
        DripsOnBelow x = told("f21;s005;w0097;h1,057;h1,397;");
        due("WEEK: the fall is held, ahead of the heavy", x.week(), 5 + 18);
        x = told("f31;s105;w0097;h2,057;h2,037;");
        due("WEEK: the first is held, the other comes", x.week(), 3);
        x.rain();
        x.put(1, 6);
        due("WEEK: at 6 ahead of 7: 3 held, 3 of 5 come", x.week(), 3);
        x.rain();
        x.put(0, 0);
        due("WEEK: at 0 ahead of 6, where nothing hangs", x.week(), 0);
    }

    // ---- questions ----

    private static void weeksInMind() {
        DripsOnBelow x = told("f31;s109;w0090;h2,020;");
        // each week 1 more is held in the end, till 7 and then 8 are: then 1 of 2 comes
        int[] harm = new int[21];
        for (int n = 1; n <= 20; n++) {
            harm[n] = harm[n - 1] + (n <= 8 ? 0 : 1);
            due("20: " + n + " weeks of all", x.harmed(-1, n), harm[n]);
            due("20: " + n + " weeks of one", x.harmed(0, n), harm[n]);
            due("20: " + n + " weeks of the last tenant", x.harmed(2, n), 0);
        }
        DripsOnBelow y = new DripsOnBelow();
        due("20: without habits", y.harmed(-1, 20) + y.harmed(0, 20) + y.harmed(5, 20), 0);
    }

    private static void leastHours() {
        for (int hour = 0; hour < 8; hour++) {
            // it hangs at all hours but one
            DripsOnBelow x = told("f21;h1,030;h1,050;");
            x.wash(0, 9, 255 - (1 << hour));
            x.put(0, 7 - hour);
            due("21: the hour " + hour, x.least(0, 0), hour);
            due("21: the harm of " + hour, x.least(0, 1), hour == 0 ? 0 : 5);
            due("22: both at " + hour, x.hours(0, 1, 0), 11 * hour);
            due("22: harm of both at " + hour, x.hours(1, 0, 1), 0);
            due("21: in mind", x.habit(0, 3), 7 - hour);
            x.wash(0, 9, 255);
            due("21: of several the least, of all", x.least(0, 0) * 10 + x.least(0, 1), 8);
            due("22: of several the least, of all", x.hours(1, 0, 0) * 10 + x.hours(1, 0, 1), 8);
            x.wash(0, 0, 0);
            due("21: of no harm", x.least(1, 0) + x.least(1, 1) + x.hours(0, 1, 0) + x.hours(0, 1, 1), 0);
        }
        // the one's hour is least first, though by the other's it would be less
        DripsOnBelow x = told("f31;s109;w00901234567;w1091234567;h2,097;h2,097;");
        due("22: 9 by any; to 0 both would come to the flat between unhung", x.hours(0, 1, 0), 0);
        due("22: harm then", x.hours(0, 1, 1), 9);
        x.wash(10, 9, 127);
        due("22: both at 7", x.hours(0, 1, 0), 77);
    }

    private static void quietAtItsEdges() {
        for (int hour = 0; hour < 8; hour++) {
            DripsOnBelow x = told("f21;w009;h1,09" + hour + ";");
            for (int a = 0; a < 8; a++) {
                for (int b = a; b < 8; b++) {
                    boolean moved = hour >= a && hour <= b && b - a < 7;
                    int to = !moved ? hour : b == 7 ? 0 : b + 1;
                    x.wash(0, 9, 1 << to);
                    due("23: at " + hour + ", quiet " + a + " to " + b, x.quiet(a, b), 9);
                    x.wash(0, 9, 255 - (1 << to));
                    due("23: at " + hour + ", quiet " + a + " to " + b + ", elsewhere", x.quiet(a, b), 0);
                }
            }
        }
    }

    private static void rules() {
        due("24: without habits", new DripsOnBelow().rule(), -9);
        for (int hour = 0; hour < 8; hour++) {
            DripsOnBelow x = told("f21;h1,09" + hour + ";");
            x.wash(0, 9, 255);
            due("24: none is less", x.rule(), -9);
            x.wash(0, 9, 255 - (1 << hour));
            due("24: none is less than nothing", x.rule(), -9);
            x.wash(0, 9, 1 << hour);
            // 0 .. hour to the next, of 7 by 1 .. 7 to 0
            due("24: from " + hour, x.rule(), hour == 7 ? 17 : hour);
            for (int to = 0; to < 8; to++) {
                if (to != hour) {
                    x.wash(0, 9, 255 - (1 << to));
                    int want = to > hour ? to - 1 : to == 0 ? 17 : -9;
                    due("24: from " + hour + " to " + to, x.rule(), to > hour || hour > 0 && to == 0 ? want : -9);
                }
            }
        }
    }

    private static void bestOfAFlat() {
        for (int hour = 0; hour < 8; hour++) {
            // at all hours but one it is dripped on
            StringBuilder text = new StringBuilder("f21;w009;");
            for (int i = 0; i < 8; i++) {
                text.append(i == hour ? "" : "h1,01" + i + ";");
            }
            DripsOnBelow x = told(text.toString());
            due("25: the hour " + hour, x.hang(0), hour);
            due("25: of no harm", x.hang(10), 0);
            x.wash(0, 0, 255);
            due("25: of no washing", x.hang(0), 0);
        }
        for (int figure = 0; figure <= 9; figure++) {
            DripsOnBelow x = told("f31;w0090;h2,0" + figure + "0;");
            due("26: as big as " + figure, x.big(10), figure);
            due("26: of no use at the ground", x.big(0), 0);
            due("26: nor at the top", x.big(20), 0);
            x.saucer(10, 9);
            x.week();
            due("26: empty in mind, of " + figure, x.big(10), figure);
            due("26: in mind", x.flat(10, 0) * 10 + x.flat(10, 1), 90 + Math.max(0, figure - 1));
        }
        DripsOnBelow x = told("f31;w0090;h2,090;h2,050;");
        due("26: the greatest, though 5 come then", x.big(10), 9);
        x.wash(0, 5, 1);
        due("26: 5 and 5 of washing: 5 less by 9", x.big(10), 9);
    }

    private static void awningsThatLead() {
        // from 11 to 00, 01 or 02: by each harm of 0 .. 2 there
        for (int i = 0; i < 27; i++) {
            int[] harm = {i / 9, i / 3 % 3, i % 3};
            DripsOnBelow x = told("f23;h4,290;");
            for (int stack = 0; stack < 3; stack++) {
                x.wash(stack, harm[stack], 1);
            }
            int least = Math.min(harm[0], Math.min(harm[1], harm[2]));
            int first = harm[0] == least ? 0 : harm[1] == least ? 1 : 2;
            for (int v = -1; v <= 1; v++) {
                x.awning(11, v);
                due("27: of " + i + ", now " + v, x.leads(11), first);
                due("28: to the lesser, of " + i + ", now " + v, x.whose(11, -1), harm[0] > 0 ? 1 : 0);
                due("28: none, of " + i + ", now " + v, x.whose(11, 0), 0);
                due("28: to the greater, of " + i + ", now " + v, x.whose(11, 1), harm[2] > 0 ? 4 : 0);
            }
        }
        DripsOnBelow x = told("f21;w0090;h1,290;");
        due("27: over the lesser side nothing harms", x.leads(10), 0);
        x.wash(0, 0, 0);
        due("27: of no harm the first", x.leads(10) + x.leads(0), 0);
        x = told("f64;w53901234567;h19,490;");
        due("27: an awning at the top ends a rising", x.leads(53), 0);
        due("28: which harms by none alone", x.whose(53, 1) + x.whose(53, -1), 0);
        due("28: nor by one below it", x.whose(43, 1), 0);
        x = told("f64;w0310;h22,210;");
        x.move(3, 23);
        due("28: the last tenant's bit, by 1 more, from the top", x.whose(52, 1), 1 << 23);
        due("28: from the first storey", x.whose(12, 1), 1 << 23);
        due("28: at the ground nothing is led", x.whose(2, 1), 0);
        due("28: to the other side", x.whose(52, -1) + x.whose(12, -1), 0);
    }

    private static void dealsAtTheirEdges() {
        // of others 9 at hour 0; each hour it is moved costs 1
        DripsOnBelow x = told("f21;w0090;h1,090;");
        for (int hour = 0; hour < 8; hour++) {
            due("29: from 0 to " + hour, x.deal(0, hour), hour == 0 ? 0 : 9 - hour);
            due("30: who, from 0 to " + hour, x.pays(0, hour, 0), hour == 0 ? -9 : 0);
            due("30: how much, from 0 to " + hour, x.pays(0, hour, 1), hour == 0 ? 0 : 9);
        }
        x.put(0, 7);
        for (int hour = 0; hour < 8; hour++) {
            due("29: from 7 to " + hour, x.deal(0, hour), hour == 0 ? -9 - 7 : hour - 7);
            due("30: nobody, from 7 to " + hour, x.pays(0, hour, 0), -9);
            due("30: nothing, from 7 to " + hour, x.pays(0, hour, 1), 0);
        }
        DripsOnBelow y = told("f21;h0,490;h0,490;h0,490;h0,490;h0,490;h0,490;h0,490;h1,097;");
        due("29: of the least front, of the last habit", y.deal(7, 0), -7);
        DripsOnBelow z = told("f62;w0090;w1090;w2090;w3090;w0190;h8,390;h9,020;");
        due("30: of several the least, 18 each", z.pays(0, 1, 0) * 100 + z.pays(0, 1, 1), 18);
        z.wash(0, 8, 1);
        due("30: the most", z.pays(0, 1, 0) * 100 + z.pays(0, 1, 1), 218);
        due("29: of all of these", z.deal(0, 1), 16 + 3 * 18 - 1);
    }

    private static void climbsAtItsEdges() {
        due("31: nothing, nothing", new DripsOnBelow().climbs(), 1);
        // tenant 1 of figure 0 is angry at 2 behind the first week: 9, 10, .. 18
        String front = "f31;w0091;w1090;h2,090;h1,001;";
        DripsOnBelow x = told(front);
        due("31: all ten weeks climb", x.climbs(), -9);
        x.week();
        due("31: one week on it is at 9 in the week 8: the last is no more", x.climbs(), 9);
        x.week();
        due("31: in mind, so again", x.climbs(), 9);
        due("31: figures stay", x.habit(0, 2) * 10 + x.habit(1, 2), 90);
        for (int figure = 1; figure <= 9; figure++) {
            DripsOnBelow y = told("f31;w0091;w1090;h2,090;h1,0" + figure + "1;");
            due("31: from " + figure + " to 9 at most", y.climbs(), 10 - figure);
        }
        // of 4 a week anger is 4, then 8; of 5 it is 5 at once
        DripsOnBelow four = told("f31;w0091;w1090;h2,040;h1,001;");
        DripsOnBelow five = told("f31;w0091;w1090;h2,050;h1,001;");
        due("31: of 4 it does not climb at once", four.climbs(), 1);
        due("31: of 5 it does", five.climbs(), -9);
        four.week();
        five.week();
        due("31: of 4 ahead of the first it is not yet angry", four.climbs(), -9);
        due("31: of 5 it is", five.climbs(), 9);
        // 4 by one and 4 by another are not 5 at one
        DripsOnBelow two = told("f41;w0091;w1090;h2,040;h3,040;h1,001;");
        due("31: 4 at each of two", two.climbs(), 1);
        // the latest week alone: what harmed ahead of it is not of it
        x.put(0, 7);
        due("31: harmed in the latest, then no more: 1, then 1", x.climbs(), 1);
        x.week();
        due("31: not in the latest week: 0, 0", x.climbs(), 1);
        x.put(0, 0);
        due("31: not in the latest, but in the first to come", x.climbs(), -9);
        // at most 9, at least one habit of it: another's stays
        DripsOnBelow both = told("f31;w00912;w1090;h2,090;h1,081;h1,002;");
        due("31: all its habits, one at 9 from the second week on", both.climbs(), -9);
        both.week();
        due("31: and both at 9 in the week 8", both.climbs(), 9);
    }

    private static void worthAtItsLeast() {
        // heavy ones of 18 on the ground: 5 of them are 90
        String five = "f61;w00901234567;h1,390;h1,390;h1,390;h1,390;h1,390;";
        for (int more = 8; more <= 12; more++) {
            int rest = Math.max(0, more - 9);
            DripsOnBelow x = told(five + "h1,0" + (more - rest) + "0;h1,0" + rest + "0;");
            due("32: 100 less 90 and " + more, x.worth(0), Math.max(0, 10 - more));
        }
        DripsOnBelow x = told("f64;");
        for (int storey = 0; storey < 6; storey++) {
            for (int stack = 0; stack < 4; stack++) {
                due("32: unharmed, of storey " + storey, x.worth(10 * storey + stack), 100 + 5 * storey);
            }
        }
        DripsOnBelow y = told("f21;w10901234567;h0,490;h0,490;h0,490;");
        due("32: the top less 3", y.worth(10), 102);
        y.move(0, 1);
        due("32: of who lives there", y.worth(10), 105);
    }

    private static void swapsAtTheirEdges() {
        DripsOnBelow x = new DripsOnBelow();
        due("33: none", x.swaps(0), 0);
        due("33: no first", x.swaps(1), -9);
        due("33: no rings", x.swaps(2), 0);
        // the last two tenants of the greatest front drip on one another
        x = told("f64;w43901234567;w53901234567;h23,091;h19,492;");
        due("33: the last pair alone", x.swaps(0), 1);
        due("33: is the first", x.swaps(1), 1923);
        due("33: of three there is none", x.swaps(2), 0);
        x = told("f21;w00901;w10901;h1,091;h0,490;");
        due("33: the least pair", x.swaps(0) * 100 + x.swaps(1), 101);
        x.wash(10, 0, 0);
        due("33: one of them has no harm to lose", x.swaps(0) * 100 + x.swaps(1), -9);
    }

    private static void ringsAtTheirEdges() {
        // 2 falls on 0 and is blown to 1, 0 rises to 2, by 1 each: at 00 the tenant 2 harms none, 0 at 01 or 10 neither
        DripsOnBelow x = told("f22;b+;w0011;w0122;w1013;h2,011;h2,122;h0,413;");
        due("33: 1 each", x.harmed(0, 1) * 100 + x.harmed(1, 1) * 10 + x.harmed(2, 1), 111);
        due("33: both rings of three, each by 1 less", x.swaps(2), 2);
        due("33: one pair, the least and the last of these", x.swaps(0) * 100 + x.swaps(1), 102);
        // 3 falls on 1 by 2, 1 rises to 3, 0 to 10: 1 to 2's has 1, 2 to 3's and 3 to 1's have none
        x = told("f22;w0121;w1112;w1013;h3,021;h1,412;h0,413;");
        due("33: 2, 1, 1", x.harmed(1, 1) * 100 + x.harmed(2, 1) * 10 + x.harmed(3, 1), 211);
        due("33: one ring of 1, 2, 3, told once", x.swaps(2), 1);
        due("33: one pair beside it", x.swaps(0) * 1000 + x.swaps(1), 1103);
        due("33: 0 has no harm to lose", x.harmed(0, 1), 0);
        x.wash(1, 1, 2);
        due("33: 1 to 2's has 1 as now: none", x.swaps(2), 0);
        due("33: the pair is still", x.swaps(1), 103);
    }

    private static void pegsOfEach() {
        DripsOnBelow x = told("f61;");
        // of tenants 0 .. 5, by flats from the ground on, above and below the line
        int[][] above = {{0, 1, 1, 1, 1, 1}, {0, 0, 2, 1, 1, 1}, {0, 0, 0, 1, 1, 1}, {0, 0, 0, 0, 2, 1}, {0, 0, 0, 0, 0, 1},
            {0, 0, 0, 0, 0, 0}};
        int[][] below = {{1, 3, 6, 6, 6, 6}, {1, 1, 5, 5, 5, 5}, {1, 1, 1, 2, 4, 4}, {1, 1, 1, 1, 3, 3}, {1, 1, 1, 1, 1, 1},
            {1, 1, 1, 1, 1, 1}};
        for (int storey = 0; storey < 6; storey++) {
            for (int tenant = 0; tenant < 6; tenant++) {
                due("34: above, of " + tenant + " in " + storey, x.peg(10 * storey, tenant, 0), above[storey][tenant]);
                due("34: below, of " + tenant + " in " + storey, x.peg(10 * storey, tenant, 1), below[storey][tenant]);
            }
        }
        DripsOnBelow y = told("f22;");
        due("34: surely, if there is one alone", y.peg(1, 3, 0) * 10 + y.peg(1, 3, 1), 11);
        due("34: not from aside", y.peg(1, 2, 0) * 10 + y.peg(1, 2, 1), 1);
        due("34: nobody lives above", y.peg(11, 0, 0) * 10 + y.peg(11, 0, 1), 1);
    }

    private static void rowsAtTheirEdges() {
        DripsOnBelow x = new DripsOnBelow();
        due("36: of no row", x.judge(), -9);
        due("35: the least", x.row(0), 1);
        due("35: the greatest", x.row(999), 2);
        due("36: 999 is not so", x.judge(), 1);
        for (int at = 0; at <= 10; at++) {
            for (int i = 0; i < 10; i++) {
                due("35: how many", x.row(i == at ? 1 : 0), i + 1);
            }
            due("35: ten are full", x.count(9) * 10 + x.row(0), 100 - 6);
            due("36: the one that is not so", x.judge(), at == 10 ? -9 : at);
            due("36: none is left", x.count(9), 0);
        }
        // the harm of ten weeks to come, one behind the other: 2 a week fill 9, which lose 1 each week
        DripsOnBelow y = told("f31;s109;w0090;h2,020;");
        for (int i = 1; i <= 10; i++) {
            y.row(i <= 8 ? 0 : 1);
        }
        due("36: ten weeks", y.judge(), -9);
        for (int i = 1; i <= 10; i++) {
            y.row(i <= 9 ? 0 : 1);
        }
        due("36: the ninth is not so", y.judge(), 8);
        due("36: in mind", y.count(3) + y.count(5), 0);
        // more than 144 a week on one: 8 heavy ones on each of five below
        DripsOnBelow z = told("f61;w0090;w1090;w2090;w3090;w4090;", "h5,390;".repeat(8));
        z.row(720);
        z.row(720);
        z.row(719);
        due("36: the greatest week", z.judge(), 2);
    }

    /** By hand: z and the DRAW of it; 2 wraps around, the sign's bit is left out. */
    private static void drawsOfSeeds() {
        int[] seed = {0, 1, 2, -1, MAX, MIN};
        // 12345; 1103527590; 2207042835 less 2^32; -1103502900; 2^31 less 1103502900; 2^31 and 12345
        int[] draw = {0, 16838 % 8, 908 % 8, 15929 % 8, 15929 % 8, 0};
        for (int i = 0; i < seed.length; i++) {
            for (int hour = 0; hour < 8; hour++) {
                DripsOnBelow x = told("f21;h1,093;");
                x.wash(0, 9, 1 << hour);
                due("37: hung at " + hour + ", of seed " + seed[i], x.seeds(1, seed[i]), hour == draw[i] ? 9 : 0);
                due("37: in mind", x.habit(0, 3), 3);
            }
        }
        // each habit, by numbers, has a draw, each week again
        DripsOnBelow x = told("f31;w00901234567;" + "h2,010;".repeat(8));
        for (int n = 1; n <= 20; n++) {
            due("37: by all hours, of " + n, x.seeds(n, n * 1000003), 8 * n);
        }
        DripsOnBelow y = told("f21;h1,010;h1,030;h1,050;");
        for (int n : new int[] {1, 2, 19, 20}) {
            for (int hour = 0; hour < 8; hour++) {
                y.wash(0, 9, 1 << hour);
                for (int z : seed) {
                    due("37: " + n + " weeks of " + z, y.seeds(n, z), drawn(n, z, hour));
                }
            }
        }
        due("37: without habits", new DripsOnBelow().seeds(20, 7), 0);
    }

    /** The harm of falls of 1, 3 and 5 by draws, in longs. */
    private static int drawn(int n, int seed, int hour) {
        long z = seed;
        int harm = 0;
        for (int i = 0; i < 3 * n; i++) {
            z = Math.floorMod(z * 1103515245L + 12345L, 1L << 32);
            long bare = z % (1L << 31);
            harm += bare / 65536L % 8L == hour ? 1 + 2 * (i % 3) : 0;
        }
        return harm;
    }

    private static void imagesAtTheirEdges() {
        DripsOnBelow x = new DripsOnBelow();
        due("39: none", x.restore(), -3);
        due("39: none still", x.restore(), -3);
        due("38: of a new object", x.image(), 0);
        x.week();
        due("38: another, of the next week", x.image(), 1);
        due("39: the latest image", x.restore(), 1);
        due("39: it stays", x.restore(), 1);
        String first = seen(x);
        tell(x, "f21;b+;h1,090;h1,090;h1,090;h1,090;h1,090;h1,090;h1,090;h1,090;w0090;s009;");
        x.week();
        due("39: from the least front, with all habits", x.restore(), 1);
        dueText("39: all as it was", seen(x), first);
        due("39: no habit", x.habit(0, 0), -1);
        due("39: and the other way", tell(x, "f21;h1,000;"), 2);
        x.image();
        tell(x, "f64;");
        x.restore();
        due("39: flats that are no more", x.flat(11, 0) + x.flat(53, 0) + x.flat(20, 0), -3);
        due("39: tenants that are no more", x.tenant(2, 0) + x.tenant(23, 0), -2);
        due("39: its habit", x.count(2), 1);
        // letters, the row, refusals, the image itself are not of it
        DripsOnBelow y = settled();
        y.image();
        feedAll(y, "b0;");
        y.row(5);
        y.wind(9);
        y.restore();
        due("THE IMAGE: letters", y.count(8), 3);
        due("THE IMAGE: the row", y.count(9), 3);
        due("THE IMAGE: refusals", y.count(16), 1);
        due("THE IMAGE: the letters tell still", y.front(), 1);
    }

    /** At the 512th call of an object all is as told. */
    private static void lastCalls() {
        DripsOnBelow x = told("f21;w00901234567;h1,090;");
        for (int i = 25; i <= 510; i++) {
            x.week();
        }
        due("the call 511", x.week(), 9);
        due("the call 512", x.count(3), 510 - 25 + 2);
        DripsOnBelow y = new DripsOnBelow();
        for (int i = 1; i <= 512; i++) {
            due("refusals up to the last call", y.restore(), -3);
        }
        due("all of them", y.count(13), 512);
    }

    public static void main(String[] args) {
        noFlats();
        noTenants();
        noHabits();
        noHours();
        otherWhats();
        belowAndAbove();
        noRoom();
        countsOfRefusals();
        allInMind();
        letterByLetter();
        faultsOfForm();
        numbersOfAFront();
        namesOfAFront();
        roomForHabits();
        faultsChangeNothing();
        anewFront();
        noHabitsOfBefore();
        putAtEdges();
        moves();
        rains();
        dryWeeks();
        angerAtItsLimit();
        harmAndWeekAtTheirLimits();
        endsOfWays();
        awningsOnTheWay();
        held();
        harmOfEach();
        hungAtTheHour();
        orderOfAWeek();
        weeksInMind();
        leastHours();
        quietAtItsEdges();
        rules();
        bestOfAFlat();
        awningsThatLead();
        dealsAtTheirEdges();
        climbsAtItsEdges();
        worthAtItsLeast();
        swapsAtTheirEdges();
        ringsAtTheirEdges();
        pegsOfEach();
        rowsAtTheirEdges();
        drawsOfSeeds();
        imagesAtTheirEdges();
        lastCalls();
        System.out.println(asked + " asked, " + wrong + " not as due");
        if (wrong != 0) {
            System.exit(1);
        }
    }
}
