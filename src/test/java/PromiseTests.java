/** Each promise by itself, worked out by hand from the document: ordinary inputs, edges, refusals. */
public final class PromiseTests {
    private static int wrong = 0;
    private static int asked = 0;

    private static void due(String what, long got, long want) {
        asked++;
        if (got != want) {
            wrong++;
            System.out.println(what + " answered " + got + ", due is " + want);
        }
    }

    private static int tell(DripsOnBelow x, String letters) {
        for (int i = 0; i < letters.length(); i++) {
            x.feed(letters.charAt(i));
        }
        return x.front();
    }

    /** Fronts longer than the letters' room, told in parts. */
    private static DripsOnBelow told(String... parts) {
        DripsOnBelow x = new DripsOnBelow();
        for (String part : parts) {
            if (tell(x, part) < 0) {
                due("a front of a test: " + part, -1, 1);
            }
        }
        return x;
    }

    private static void refusals(String what, DripsOnBelow x, int... due) {
        int[] want = new int[7];
        for (int number : due) {
            want[-number]++;
        }
        for (int i = 1; i <= 6; i++) {
            due(what + ": refusals -" + i, x.count(10 + i), want[i]);
        }
    }

    private static void aNewObject() {
        DripsOnBelow x = new DripsOnBelow();
        int[] want = {3, 2, 0, 0, 1, 0, 0, 0, 0, 0, -9, 0, 0, 0, 0, 0, 0, -9};
        for (int i = 0; i < want.length; i++) {
            due("1: count " + i, x.count(i), want[i]);
        }
        int tenant = 0;
        for (int storey = 0; storey < 3; storey++) {
            for (int stack = 0; stack < 2; stack++) {
                int flat = 10 * storey + stack;
                int[] at = {0, 0, 1, 0, 0, tenant};
                for (int what = 0; what < 6; what++) {
                    due("1: flat " + flat + ", " + what, x.flat(flat, what), at[what]);
                }
                due("1: tenant's flat", x.tenant(tenant, 0), flat);
                due("1: tenant's harm", x.tenant(tenant, 1), 0);
                due("1: tenant's habits", x.tenant(tenant, 2), 0);
                tenant++;
            }
        }
        refusals("1", x);
    }

    private static void feed() {
        DripsOnBelow x = new DripsOnBelow();
        due("2: below", x.feed(-1), -4);
        due("2: above", x.feed(256), -6);
        due("2: first", x.feed(0), 1);
        due("2: second", x.feed(255), 2);
        for (int i = 3; i <= 96; i++) {
            due("2: the letter " + i, x.feed('f'), i);
        }
        due("2: no room", x.feed('f'), -6);
        due("2: below, ahead of no room", x.feed(Integer.MIN_VALUE), -4);
        due("2: how many", x.count(8), 96);
        refusals("2", x, -4, -6, -6, -4);
        due("2: a fault empties it", x.front(), -1000);
        due("2: none then", x.count(8), 0);
        due("2: room again", x.feed('f'), 1);
    }

    private static void frontFaults() {
        String[] text = {"", "x", "f", "f3", "f32", "f32;f", "f32;;", "f3x;", "f321;", "s00;", "s00", "s0a", "s005",
            "s0055;", "a00;", "a001;", "a00+", "a00++;", "b;", "b1;", "b+", "b+b", "b+;b", "w00;", "w001", "w0018;",
            "w0010123456;9", "w00101234567;", "w001012345677;", "w00100000000;", "w001000000000;", "w0019;", "w001a;",
            "h;", "h,", "h0", "h00", "h000", "h000,", "h0,", "h0,12", "h0,123", "h0,1234;", "h0,1a3;", "F32;",
            "f32; ", "f71;x", "h0,678;", " f32;"};
        int[] place = {0, 0, 1, 2, 3, 5, 4, 2, 3, 3, 3, 2, 4, 4, 3, 3, 4, 4, 1, 1, 2, 2, 4, 3, 4, 4, 12, -1, 12,
            -1, 12, 4, 4, 1, 1, 2, 3, 3, 3, 3, 5, 6, 6, 4, 0, 4, 4, -1, 0};
        for (int i = 0; i < text.length; i++) {
            if (place[i] >= 0) {
                DripsOnBelow x = new DripsOnBelow();
                due("3: fault of form in '" + text[i] + "'", tell(x, text[i]), -1000 - place[i]);
                due("3: no letters then", x.count(8), 0);
                refusals("3: a fault is not counted", x);
            }
        }
        String[] bad = {"f12;", "f72;", "f02;", "f20;", "f25;", "f64;f65;", "s305;", "s025;", "a30+;",
            "a02-;", "w300;", "w0200;", "h6,000;", "h0,600;", "h0,900;", "h0,008;", "h0,009;", "h99,000;", "f21;s015;",
            "b+;f21;h2,000;", "f21;a20+;", "h0,000;h0,009;", "w30057;", "f72;s995;"};
        int[] at = {0, 0, 0, 0, 0, 4, 0, 0, 0, 0, 0, 0, 0, 0, 0, 0, 0, 0, 4, 7, 4, 7, 0, 0};
        for (int i = 0; i < bad.length; i++) {
            DripsOnBelow x = new DripsOnBelow();
            due("3: fault of sense in '" + bad[i] + "'", tell(x, bad[i]), -2000 - at[i]);
            due("3: nothing of it comes: storeys", x.count(0), 3);
            due("3: nothing of it comes: wind", x.count(4), 1);
            due("3: nothing of it comes: habits", x.count(2), 0);
            due("3: nothing of it comes: letters", x.count(8), 0);
            refusals("3: a fault is not counted", x);
        }
        DripsOnBelow x = told("h0,000;h0,000;h0,000;h0,000;h0,000;h0,000;h0,000;");
        due("3: the eighth has room, the ninth none", tell(x, "b+;h0,000;h0,000;"), -2010);
        due("3: seven still", x.count(2), 7);
        due("3: the eighth", tell(x, "h05,517;"), 1);
        due("3: a tenant of two digits", x.habit(7, 0), 5);
        due("3: no room behind eight", tell(x, "h0,000;"), -2000);
        due("3: room behind a new front", tell(x, "f32;h0,000;"), 2);
    }

    private static void fronts() {
        DripsOnBelow x = new DripsOnBelow();
        due("3: how many", tell(x, "s005;a00+;a01-;w0190770;b-;h5,376;"), 6);
        due("3: saucer", x.flat(0, 0), 5);
        due("3: awning +", x.flat(0, 2), 2);
        due("3: awning -", x.flat(1, 2), 0);
        due("3: washing", x.flat(1, 3), 9);
        due("3: hours", x.flat(1, 4), 129);
        due("3: wind", x.count(4), 0);
        due("3: habit's tenant", x.habit(0, 0), 5);
        due("3: habit's kind", x.habit(0, 1), 3);
        due("3: habit's figure", x.habit(0, 2), 7);
        due("3: habit's hour", x.habit(0, 3), 6);
        due("3: awning 0, no hours, calm", tell(x, "a000;w012;b0;"), 3);
        due("3: awning 0 then", x.flat(0, 2), 1);
        due("3: washing then", x.flat(1, 3), 2);
        due("3: no hours then", x.flat(1, 4), 0);
        due("3: calm then", x.count(4), 1);
        x.week();
        x.move(0, 5);
        x.wind(1);
        due("3: a new front", tell(x, "f64;"), 1);
        due("3: storeys", x.count(0), 6);
        due("3: stacks", x.count(1), 4);
        due("3: no habits", x.count(2), 0);
        due("3: the week goes on", x.count(3), 1);
        due("3: the wind goes on", x.count(4), 2);
        due("3: all as at first", x.flat(0, 0) + x.flat(1, 3), 0);
        due("3: tenant 0 is at home", x.tenant(0, 0), 0);
        due("3: the last tenant", x.flat(53, 5), 23);
        DripsOnBelow y = told("f21;s009;w009012;h1,090;");
        y.week();
        due("3: held", y.flat(0, 1), 8);
        due("3: harm, anger", y.count(6) * 100 + y.count(7), 909);
        tell(y, "s003;");
        due("3: it holds no more than the saucer", y.flat(0, 1), 3);
        tell(y, "f21;");
        due("3: no harm, no anger, nothing held", y.count(5) + y.count(6) + y.count(7), 0);
        y = told("a00+;w0091;");
        tell(y, "f32;");
        for (int what = 0; what < 6; what++) {
            due("3: as at first, " + what, y.flat(0, what), what == 2 ? 1 : 0);
        }
        tell(y, "s003;");
        int[] saucer = {3, 0, 1, 0, 0, 0};
        for (int what = 0; what < 6; what++) {
            due("3: a saucer alone, " + what, y.flat(0, what), saucer[what]);
        }
        tell(y, "a01-;");
        due("3: an awning alone", y.flat(1, 2) * 1000 + y.flat(1, 0) + y.flat(1, 3) + y.flat(1, 4), 0);
        due("3: of two digits, the second 0", tell(y, "f64;h10,111;h01,222;h9,000;"), 4);
        due("3: tenants", y.habit(0, 0) * 100 + y.habit(1, 0) * 10 + y.habit(2, 0), 1019);
        due("3: what is ahead of a fault of sense does not come", tell(y, "b+;s003;h0,222;s653;"), -2015);
        due("3: wind, saucer, habits", y.count(4) * 100 + y.flat(0, 0) * 10 + y.count(2), 103);
        DripsOnBelow z = new DripsOnBelow();
        for (int i = 0; i < 32; i++) {
            tell96(z, i);
        }
        due("3: of 96 letters", z.front(), 32);
    }

    private static void tell96(DripsOnBelow z, int i) {
        z.feed('b');
        z.feed(i % 2 == 0 ? '+' : '-');
        z.feed(';');
    }

    private static void asks() {
        DripsOnBelow x = told("f32;w017135;h4,121;h4,232;");
        due("4: no such storey", x.flat(30, 0), -1);
        due("4: no such stack", x.flat(2, 0), -1);
        due("4: below", x.flat(-1, 9), -1);
        due("4: other what", x.flat(0, 6), -2);
        due("4: what below", x.flat(0, -1), -2);
        due("5: tenant's habits", x.tenant(4, 2), 2);
        due("5: another's", told("h0,000;h4,111;h4,222;").tenant(0, 2), 1);
        due("5: flat", x.tenant(3, 0), 11);
        due("5: no such", x.tenant(6, 0), -1);
        due("5: below", x.tenant(-1, 3), -1);
        due("5: other", x.tenant(5, 3), -2);
        due("5: other below", x.tenant(5, -1), -2);
        due("6: one twice", x.anger(2, 2), -1);
        due("6: no such", x.anger(6, 0), -1);
        due("6: no such other", x.anger(0, 6), -1);
        due("6: below", x.anger(-1, 0), -1);
        due("6: none", x.anger(0, 1), 0);
        due("7: kind", x.habit(1, 1), 2);
        due("7: no such", x.habit(2, 0), -1);
        due("7: below", x.habit(-1, 4), -1);
        due("7: other", x.habit(0, 4), -2);
        due("7: other below", x.habit(0, -1), -2);
        refusals("4 to 7", x, -1, -1, -1, -2, -2, -1, -1, -2, -2, -1, -1, -1, -1, -1, -1, -2, -2);
    }

    private static void becomes() {
        DripsOnBelow x = told("f32;s009;h4,093;");
        due("8: what it was", x.put(0, 7), 3);
        due("8: what it is", x.habit(0, 3), 7);
        due("8: the least hour", x.put(0, 0), 7);
        due("8: no such", x.put(1, 9), -1);
        due("8: hour above", x.put(0, 8), -2);
        due("8: hour below", x.put(0, -1), -2);
        x.week();
        due("9: held", x.flat(0, 1), 8);
        due("9: the least, of another", x.saucer(1, 0), 0);
        due("9: what it was", x.saucer(0, 4), 9);
        due("9: no more is held", x.flat(0, 1), 4);
        due("9: more again", x.saucer(0, 9), 4);
        due("9: held still", x.flat(0, 1), 4);
        due("9: no such", x.saucer(30, -1), -1);
        due("9: below", x.saucer(0, -1), -4);
        due("9: above", x.saucer(0, 10), -6);
        due("10: was none", x.awning(10, -1), 1);
        due("10: was lesser", x.awning(10, 1), 0);
        due("10: was greater", x.awning(10, 0), 2);
        due("10: no such", x.awning(12, 5), -1);
        due("10: below", x.awning(10, -2), -4);
        due("10: above", x.awning(10, 2), -6);
        due("11: was none", x.wash(11, 9, 255), 0);
        due("11: was 9", x.wash(11, 0, 0), 9);
        due("11: hours then", x.flat(11, 4), 0);
        due("11: no such", x.wash(99, -1, 0), -1);
        due("11: washing below, hours above", x.wash(11, -1, 256), -4);
        due("11: washing above, hours below", x.wash(11, 10, -1), -4);
        due("11: washing above", x.wash(11, 10, 0), -6);
        due("11: hours above", x.wash(11, 0, 256), -6);
        due("12: was calm", x.wind(-1), 1);
        due("12: was lesser", x.wind(1), 0);
        due("12: was greater", x.wind(1), 2);
        due("12: below", x.wind(-2), -4);
        due("12: above", x.wind(2), -6);
        due("13: where the first is", x.move(0, 5), 21);
        due("13: where the other is", x.tenant(5, 0), 0);
        due("13: who lives there", x.flat(21, 5), 0);
        due("13: again", x.move(1, 0), 21);
        due("13: one twice", x.move(1, 1), -1);
        due("13: no such", x.move(0, 6), -1);
        due("13: below", x.move(-1, 0), -1);
        due("14: rain", x.rain(), 4);
        due("14: nothing held", x.flat(0, 1) + x.count(5), 0);
        due("14: rain again", x.rain(), 0);
        due("14: the saucer is there", x.flat(0, 0), 9);
        refusals("8 to 13", x, -1, -2, -2, -1, -4, -6, -1, -4, -6, -1, -4, -4, -6, -6, -4, -6, -1, -1, -1);
    }

    /** Of tenant 12 (flat 40) of a front of five by three, a fall of 7 through saucers of 2 and washing of 5. */
    private static void weeks() {
        DripsOnBelow x = told("f53;s302;s202;w30501234567;w20501234567;w10501234567;w00501234567;", "h12,070;");
        due("15: harm of it: 5, 5, 3, 3", x.week(), 16);
        due("15: the week", x.count(3), 1);
        due("15: each holds one less", x.flat(30, 1) * 10 + x.flat(20, 1), 11);
        due("15: harm of 3's tenant", x.tenant(9, 1), 5);
        due("15: anger at 12", x.anger(9, 12) * 10 + x.anger(0, 12), 53);
        due("15: no anger back", x.anger(12, 9), 0);
        due("15: 7, 6, 5, 5 come then", x.week(), 20);
        due("15: all harm", x.count(6), 36);
        due("15: all anger", x.count(7), 36);
        DripsOnBelow y = told("f21;w00901234567;h1,090;h1,391;");
        for (int i = 0; i < 36; i++) {
            due("15: 9 and 18", y.week(), 27);
        }
        due("15: anger ahead of its limit", y.anger(0, 1), 972);
        y.week();
        due("15: anger at its limit", y.anger(0, 1), 999);
        y.week();
        due("15: anger no more", y.anger(0, 1), 999);
        due("15: harm goes on", y.tenant(0, 1), 38 * 27);
        DripsOnBelow z = told("f21;s005;w0090;h1,040;h1,040;h1,070;");
        due("15: by numbers, each holds what room there is: 4, 4, 7", z.week(), 15);
        due("15: full less one", z.flat(0, 1), 4);
        DripsOnBelow v = told("f31;s108;w0090123;h2,082;h2,081;");
        due("15: by hours, by numbers: the one at 1 is held", v.week(), 8);
        for (int i = 1; i < 9999; i++) {
            v.week();
        }
        due("15: the last week", v.count(3), 9999);
        int harm = v.count(6);
        due("15: no room", v.week(), -6);
        due("15: nothing changes", v.count(3) * 100 + v.count(6) - harm, 999900);
        due("15: all harm of one at its limit", harm, 99999);
        refusals("15", v, -6);
    }

    private static void kinds() {
        DripsOnBelow x = told("f53;b+;w21901234567;w22901234567;w11901234567;w31901234567;", "w41901234567;h7,070;");
        due("fall", x.steps(0, -1) * 1000 + x.steps(0, 0) * 10 + x.down(0), 2000 + 110 + 1);
        x = told("f53;b+;h6,170;h8,170;h12,170;");
        due("blown: from the first stack", x.steps(0, -1) * 1000 + x.steps(0, 0) * 10 + x.down(0), 2000 + 110 + 2);
        due("blown: over the side", x.steps(1, -1), 0);
        due("blown: none", x.down(1), -9);
        due("blown: over the side later", x.steps(2, -1) * 100 + x.down(2), 222);
        x.wind(-1);
        due("blown: the other way", x.steps(1, 0) * 100 + x.steps(1, 1), 1100);
        x = told("f53;a20+;a11+;a10-;h6,270;h7,270;");
        due("led: by the flat it leaves, then by that", x.steps(0, 0) * 100 + x.steps(0, 1), 1102);
        due("led: none there, then as 11 leads", x.steps(1, 0) * 100 + x.steps(1, 1), 1102);
        x.awning(20, -1);
        due("led: over the side", x.steps(0, -1), 0);
        x = told("f53;a31+;h4,470;h12,470;h3,400;");
        due("rising: till below the awning", x.steps(0, -1) * 100 + x.down(0), 121);
        due("rising: from the top", x.steps(1, -1), 0);
        due("rising: of figure 0", x.steps(2, -1), 0);
        x.awning(31, 0);
        x.awning(11, 1);
        due("rising: an awning on its own flat is none", x.steps(0, -1) * 100 + x.down(0), 341);
        x = told("f53;h12,570;h9,570;h3,570;h0,570;");
        due("spiteful: two below", x.steps(0, -1) * 10000 + x.steps(0, 0) * 100 + x.down(0), 22000);
        due("spiteful: 1 then, below it none two below", x.steps(1, 0) * 100 + x.steps(1, 1), 1000);
        due("spiteful: none two below, one below", x.steps(2, -1) * 100 + x.steps(2, 0), 100);
        due("spiteful: at the ground", x.steps(3, -1), 0);
        x.wind(1);
        due("spiteful: blown", x.steps(0, -1) * 10000 + x.steps(0, 0) * 100 + x.down(0), 2 * 10000 + 3100 + 22);
    }

    private static void harms() {
        String front = "f21;w0050;h1,090;h1,190;h1,290;h1,390;h1,590;h1,030;h1,130;";
        DripsOnBelow x = told(front, "h1,330;");
        int[] want = {5, 2, 5, 10, 4, 3, 1, 6};
        for (int i = 0; i < want.length; i++) {
            due("19: harm of the habit " + i, x.does(i, 0), want[i]);
        }
        due("15: all of it", x.week(), 36);
        x.wash(0, 5, 254);
        due("19: not hung at the hour", x.does(0, 0), 0);
        x.wash(0, 0, 255);
        due("19: no washing", x.does(4, 0) + x.does(3, 0), 0);
        x = told("f21;w1050;h0,490;h0,410;h0,400;");
        due("19: rising", x.does(0, 1) * 10 + x.does(1, 1), 11);
        due("19: rising of figure 0", x.does(2, 1), 0);
        x = told("f31;s109;s009;w0090;w1090;h2,590;h2,390;h2,500;");
        due("19: spiteful of 9: none is held by 10", x.does(0, 1) * 10 + x.does(0, 0), 6);
        due("19: spiteful of figure 0", x.does(2, 0), 0);
        due("19: heavy: nothing is held", x.does(1, 1) * 100 + x.does(1, 0), 1818);
        x = told("f31;s109;s009;w0090;w1090;b0;h1,590;h1,140;");
        due("15: half the room is held, then all of the other", x.week(), 6 + 2);
        due("15: 4 and then 4 held, 1 less", x.flat(0, 1), 7);
        x = told("f31;s106;w0090;b+;b0;h1,590;h2,590;h2,590;");
        x.wind(0);
        x.move(0, 1);
        due("15: two below, past the saucer", x.week() * 10 + x.count(5), 120);
        x = told("f31;s105;w0090;w1090;h2,190;");
        due("19: blown is held as a fall", x.does(0, 1) * 10 + x.does(0, 0), 42);
        due("19: no such habit", x.does(1, 0), -1);
        due("19: no such tenant", x.does(0, 3), -1);
        due("19: tenant below", x.does(0, -1), -1);
        due("19: its own", x.does(0, 2), 0);
    }

    /** A way is told by its kind: of figure 0, whom() has it as of any other, steps() and down() do not. */
    private static void waysOfNothing() {
        String front = "f43;b+;a31-;a20+;";
        DripsOnBelow x = told(front + "h9,100;h10,200;h11,300;h0,400;h9,500;");
        DripsOnBelow y = told(front + "h9,190;h10,220;h11,350;h0,410;h9,570;");
        int[] flats = {0, 1, 2, 10, 11, 12, 20, 21, 22, 30, 31, 32};
        int[] want = {0, 2, 4, 8, 2, 21, 2, 17, 4, 0, 0, 0};
        for (int i = 0; i < flats.length; i++) {
            due("18: of figure 0, to " + flats[i], x.whom(flats[i], 0), want[i]);
            due("18: of other figures, to " + flats[i], y.whom(flats[i], 0), want[i]);
            y.saucer(flats[i], 1);
        }
        for (int i = 0; i < 5; i++) {
            due("16: of figure 0", x.steps(i, -1) * 10 + x.steps(i, 0), -9);
            due("17: of figure 0", x.down(i), -9);
        }
        for (int i = 0; i < flats.length; i++) {
            due("18: saucers have no part, at " + flats[i], y.whom(flats[i], 0), want[i]);
        }
        x.wind(0);
        due("18: of figure 0, spiteful two below", x.whom(10, 0) + x.whom(0, 0) * 100, 8 + 16 + 1 + 1700);
        due("18: which passes by, a blown does not", x.whom(20, 0), 2 + 1);
        due("18: it asks nothing of the week", x.week() + x.count(5), 0);
    }

    private static void ways() {
        DripsOnBelow x = told("f61;s303;s202;s104;h5,070;h5,050;h5,004;");
        due("16: till nothing is left", x.steps(0, -1), 4);
        int[] want = {40, 30, 20, 10, -9, -9};
        for (int k = 0; k < want.length; k++) {
            due("16: the flat " + k, x.steps(0, k), want[k]);
        }
        due("16: far behind", x.steps(0, Integer.MAX_VALUE), -9);
        due("16: just held", x.steps(1, -1), 3);
        due("16: of figure 0", x.steps(2, -1) * 10 + x.steps(2, 0), -9);
        due("17: of figure 0", x.down(2), -9);
        due("17: the last", x.down(0), 10);
        due("17: the last of 5", x.down(1), 20);
        x.week();
        due("16: as they hold now: 2, 1, 1 room less", x.steps(1, -1) * 100 + x.down(1), 500);
        due("16: k below", x.steps(0, -2), -4);
        due("16: no such, ahead of k below", x.steps(3, -2), -1);
        due("16: below", x.steps(-1, 0), -1);
        due("17: no such", x.down(3), -1);
        due("17: below", x.down(-1), -1);
        refusals("16, 17", x, -4, -1, -1, -1, -1);
        due("18: nothing is held", x.whom(0, 0), 3);
        due("18: of figure 0 too, at its hour", x.whom(0, 4) * 10 + x.whom(40, 4), 44);
        x = told("f61;s303;s202;s104;h5,010;h5,050;h5,000;h5,571;");
        due("18: nothing is held, whatever the figure", x.whom(0, 0), 7);
        due("18: nor of a spiteful, two by two, then one", x.whom(0, 1) + x.whom(30, 1) + x.whom(10, 1), 24);
        due("18: which passes by", x.whom(20, 1) + x.whom(40, 1), 0);
        due("18: at another hour", x.whom(0, 4), 0);
        due("18: not to where it starts from", x.whom(50, 0), 0);
        due("18: no such", x.whom(60, 8), -1);
        due("18: hour above", x.whom(0, 8), -2);
        due("18: hour below", x.whom(0, -1), -2);
        refusals("18", x, -1, -2, -2);
    }

    private static void harmedOnes() {
        DripsOnBelow x = told("f31;s101;w0090;w1090;h2,020;h2,330;");
        due("20: of all, a week", x.harmed(-1, 1), 2 + 1 + 6 + 6);
        due("20: of one", x.harmed(0, 1), 7);
        due("20: of twenty: it holds 1 less by each week's end", x.harmed(-1, 20), 300);
        x = told("f21;s009;w0090;f31;s109;w0090;h2,060;");
        due("20: the saucer fills by and by: 0, 2, 5, 5", x.harmed(-1, 1), 0);
        due("20: of two", x.harmed(0, 2), 2);
        due("20: of four", x.harmed(0, 4), 12);
        due("20: of another", x.harmed(1, 4), 0);
        due("20: all in mind", x.count(3) + x.count(5) + x.count(6), 0);
        due("20: no such", x.harmed(3, 0), -1);
        due("20: below", x.harmed(-2, 1), -1);
        due("20: none", x.harmed(0, 0), -4);
        due("20: too many", x.harmed(0, 21), -6);
        refusals("20", x, -1, -1, -4, -6);
    }

    private static void hoursOf() {
        DripsOnBelow x = told("f31;w00901245;w10301;h2,093;h2,054;");
        due("21: at 3 nothing hangs", x.least(0, 0), 3);
        due("21: that harm: 5 of the other", x.least(0, 1), 5);
        due("21: of the other", x.least(1, 0) * 10 + x.least(1, 1), 30);
        DripsOnBelow y = told("f31;w009123;h2,093;");
        due("21: 0 is the least of several", y.least(0, 0) * 10 + y.least(0, 1), 0);
        y.wash(0, 9, 127);
        due("21: 7 alone", y.least(0, 0) * 10 + y.least(0, 1), 70);
        y.wash(0, 9, 254);
        due("21: 0 alone", y.least(0, 0) * 10 + y.least(0, 1), 0);
        x.put(0, 0);
        due("21: of the other, 9 and 3 of the first", x.least(1, 0) * 100 + x.least(1, 1), 312);
        due("21: no such", x.least(2, 5), -1);
        due("21: other", x.least(0, 2), -2);
        due("21: other below", x.least(0, -1), -2);
        due("22: both at 3", x.hours(0, 1, 0), 33);
        due("22: harm", x.hours(0, 1, 1), 0);
        due("22: one twice", x.hours(1, 1, 0), -1);
        due("22: no such", x.hours(0, 2, 5), -1);
        due("22: other", x.hours(0, 1, 2), -2);
        refusals("21, 22", x, -1, -2, -2, -1, -1, -2);
        x = told("f31;s109;w0091;w1091;h2,090;h2,010;");
        due("22: of several the first's least", x.hours(0, 1, 0) * 10 + x.hours(0, 1, 1), 0);
        x = told("f31;s109;w00901234567;h2,090;h2,051;");
        due("22: the harm is 5 by any", x.hours(0, 1, 0) * 10 + x.hours(0, 1, 1), 5);
        x = told("f31;s109;w009123;w1090123567;h2,094;h2,054;");
        due("22: at 4 the first of it, then the other", x.hours(0, 1, 0) * 100 + x.hours(0, 1, 1), 4400);
        x = told("f31;s109;w0090123;w109;h2,094;h2,054;");
        due("22: that by the one first", x.hours(1, 0, 0) * 100 + x.hours(1, 0, 1), 400);
    }

    private static void quietHours() {
        DripsOnBelow x = told("f21;w0092357;h1,012;h1,023;h1,045;h1,087;");
        due("23: as they are", x.week(), 15);
        due("23: 2 .. 3 to 4", x.quiet(2, 3), 12);
        due("23: 2 .. 2 to 3", x.quiet(2, 2), 15);
        due("23: 5 .. 7 to 0", x.quiet(5, 7), 3);
        due("23: 1 .. 7 to 0", x.quiet(1, 7), 0);
        due("23: 0 .. 7 all stay", x.quiet(0, 7), 15);
        due("23: a above, ahead of b below a", x.quiet(8, 0), -2);
        due("23: b above", x.quiet(0, 8), -2);
        due("23: a below", x.quiet(-1, 0), -2);
        due("23: b below", x.quiet(0, -1), -2);
        due("23: b below a", x.quiet(3, 2), -3);
        refusals("23", x, -2, -2, -2, -2, -3);
        due("23: in mind", x.habit(3, 3), 7);
        due("24: the least of several", x.rule(), 17);
        x.wash(0, 9, 8);
        due("24: 3 alone, by 0 .. 3 first", x.rule(), 3);
        x.put(0, 3);
        x.put(1, 2);
        x.wash(0, 9, 16 + 8);
        due("24: 3 .. 3 were to 4, so 0 .. 4", x.rule(), 4);
        x.wash(0, 9, 255);
        due("24: none is less", x.rule(), -9);
        x = told("f21;w0097;h1,097;");
        due("24: 1 .. 7 to 0", x.rule(), 17);
        x = told("f21;w009067;h1,097;");
        due("24: all to 0 harms as well", x.rule(), -9);
        due("23: 7 .. 7 to 0", x.quiet(7, 7), 9);
        x.wash(0, 9, 192);
        due("23: to 0, where nothing hangs", x.quiet(7, 7) * 10 + x.quiet(6, 6), 9);
    }

    private static void bestOfFlats() {
        DripsOnBelow x = told("f21;w00901234567;h1,020;h1,011;h1,022;h1,033;h1,014;h1,025;h1,016;", "h1,027;");
        due("25: of several the least", x.hang(0), 1);
        due("25: none harms the top", x.hang(10), 0);
        x.put(0, 1);
        due("25: then 0", x.hang(0), 0);
        due("25: no such", x.hang(20), -1);
        due("25: in mind", x.flat(0, 4), 255);
        x = told("f31;s104;w0090;h2,050;h2,021;");
        due("26: 5 hold all of it", x.big(10), 5);
        due("26: the least of several: none is harmed there", x.big(0), 0);
        due("26: no such", x.big(1), -1);
        x.wash(0, 9, 3);
        due("26: 5 and 2", x.big(10), 7);
        x.week();
        due("26: empty in mind", x.big(10), 7);
        due("26: in mind", x.flat(10, 0) * 10 + x.flat(10, 1), 43);
        x = told("f31;w0091;h2,041;h2,061;");
        due("26: the greatest", x.big(10), 9);
        x = told("f31;s108;w0090;w10901;h2,330;h2,040;h2,031;h2,560;");
        due("26: a heavy one is not held, of a spiteful one half", x.big(10), 4);
        x = told("f23;w0090;w01401;w0280;h4,270;");
        due("27: aside to the lesser is 7, none 4, the greater 7", x.leads(11), 1);
        x.wash(1, 8, 1);
        due("27: of several the first", x.leads(11), 0);
        x.wash(2, 6, 1);
        due("27: the greater", x.leads(11), 2);
        due("27: a flat without a habit, at the ground", x.leads(0), 0);
        due("27: no such", x.leads(13), -1);
        due("27: in mind", x.flat(11, 2), 1);
        due("28: to the greater", x.whose(11, 1), 4);
        due("28: to the lesser", x.whose(11, -1), 1);
        due("28: none", x.whose(11, 0), 0);
        x.awning(11, 1);
        due("28: by none, not by what is there", x.whose(11, 1), 4);
        due("28: no such", x.whose(20, -2), -1);
        due("28: below", x.whose(0, -2), -4);
        due("28: above", x.whose(0, 2), -6);
        refusals("27, 28", x, -1, -1, -4, -6);
    }

    private static void deals() {
        DripsOnBelow x = told("f31;w00805;w1080;w2080;h2,075;h2,020;h1,010;h0,430;");
        due("29: by 5 less 2", x.deal(0, 3), 7 - 2);
        due("29: to 7", x.deal(0, 7), 5);
        due("29: to 0, not around", x.deal(0, 0), -7 - 5);
        due("29: to where it is", x.deal(0, 5), 0);
        due("29: of the rising", x.deal(3, 1), 1 + 1 - 1);
        due("29: no such", x.deal(4, 9), 1000000001);
        due("29: hour above", x.deal(0, 8), 1000000002);
        due("29: hour below", x.deal(0, -1), 1000000002);
        due("30: who", x.pays(0, 3, 0), 0);
        due("30: how much", x.pays(0, 3, 1), 7);
        due("30: nobody", x.pays(0, 0, 0), -9);
        due("30: nothing", x.pays(0, 0, 1), 0);
        due("30: of several the least", x.pays(3, 1, 0) * 10 + x.pays(3, 1, 1), 11);
        due("30: no such", x.pays(4, 9, 9), -1);
        due("30: hour", x.pays(0, 8, 0), -2);
        due("30: what", x.pays(0, 0, 2), -2);
        due("30: what below", x.pays(0, 0, -1), -2);
        refusals("29, 30", x, -1, -2, -2, -1, -2, -2, -2);
        due("29: in mind", x.habit(0, 3), 5);
    }

    private static void revenge() {
        DripsOnBelow x = new DripsOnBelow();
        due("31: nothing is no more than nothing", x.climbs(), 1);
        x = told("f21;w00901234567;w10901234567;h1,040;h0,490;");
        due("31: 4 is not 5, and the riser is at 9", x.climbs(), 1);
        x = told("f31;w00901234567;w1090;h2,050;h1,020;");
        due("31: 7 and 5; then 1 is angry: 13, 14, .. till 9", x.climbs(), 8);
        due("31: in mind", x.habit(1, 2) + x.count(3) + x.count(7), 2);
        x = told("f31;w00901234567;w1091;h2,051;h1,020;");
        due("31: as well", x.climbs(), 8);
        x.week();
        x.week();
        due("31: anger there is, so the first climbs too", x.climbs(), 7);
        x.wash(10, 0, 0);
        due("31: harmed in the latest week, not in those to come: 3 more, then no more", x.climbs(), 1);
        x.week();
        due("31: not harmed in the latest week", x.climbs(), 1);
        due("31: two weeks of it are alike", x.harmed(-1, 2), 2 * x.harmed(-1, 1));
        x = told("f31;w00901;w10901;h2,010;h1,001;");
        due("31: 2, 2", x.climbs(), 1);
        x = told("f21;w0090;w1090;h1,030;h0,490;h0,490;h0,490;h0,490;h0,490;");
        due("31: 1 is angry at 0 by 5: 8, 9, .. 14, 14", x.climbs(), 7);
        x.week();
        x.wash(10, 0, 0);
        x.week();
        due("31: angry still, but not harmed by 0 in the latest week", x.climbs(), 1);
        x = told("f21;w0090;w1090;h0,030;h1,490;h1,490;h1,490;h1,490;h1,490;");
        x.move(0, 1);
        due("31: 0 is angry at 1", x.climbs(), 7);
        x = told("f21;w0090;w1090;h1,030;h0,490;h0,490;h0,490;h0,490;");
        due("31: 4 is not 5, in the second week 8 is: 7, 7", x.climbs(), 1);
        x = told("f31;w0090;w1090;h2,030;h1,000;h0,490;");
        due("31: 3 and 3 and 1 by one each", x.climbs(), 1);
        x = told("f64;w00901234567;w1090;w2090;w3090;w4090;", "h20,010;h16,010;h12,010;h8,010;h4,010;");
        due("31: 15, 15", x.climbs(), 1);
    }

    private static void worths() {
        DripsOnBelow x = told("f63;w00901234567;h15,090;h15,390;h15,391;h15,392;h15,393;h15,394;h15,395;");
        due("32: 100 less 9 and 108: none", x.worth(0), 0);
        due("32: the top", x.worth(52), 125);
        due("32: the second", x.worth(11), 105);
        due("32: no such", x.worth(3), -1);
        x.wash(0, 9, 1 + 2);
        due("32: 100 less 45", x.worth(0), 55);
        x.move(0, 4);
        due("32: of who lives there", x.worth(0) * 1000 + x.worth(11), 55105);
    }

    private static void changes() {
        DripsOnBelow x = told("f22;w0090;w0190;h2,070;h3,080;");
        due("33: none by which both have less", x.swaps(0) * 10 + x.swaps(1), -9);
        // 1 drips 2 on 0, which rises on 1: by a change each has 1 less or all less
        x = told("f21;w0092;w1091;h1,012;h0,411;");
        due("33: 1 less is less", x.swaps(0) * 10 + x.swaps(1), 11);
        // 1 drips on 0, 2 on both: by a change 0 has less, 1 as much
        x = told("f31;w0091;w1091;h1,091;h2,011;");
        due("33: as much is not less", x.swaps(0), 0);
        x = told("f31;w0091;w1091;h0,091;h2,011;");
        x.move(0, 1);
        due("33: nor for the lesser", x.swaps(0), 0);
        x = told("f31;w0091;w1091;w2091;h1,011;h2,011;h0,411;");
        due("33: one pair and a ring", x.swaps(0) * 10 + x.swaps(2), 11);
        x = told("f21;w0090;w1090;h1,070;h0,490;");
        due("33: one", x.swaps(0), 1);
        due("33: the first", x.swaps(1), 1);
        due("33: rings of two are none", x.swaps(2), 0);
        due("33: other", x.swaps(3), -2);
        due("33: other below", x.swaps(-1), -2);
        refusals("33", x, -2, -2);
        // 3 falls on 0, 4 on 1, 5 on 2; the risers 0, 1, 2 harm 3, 4, 5
        x = told("f23;w0090;w0190;w0290;w1090;w1190;w1290;", "h3,050;h4,050;h5,050;h0,450;h1,450;h2,450;");
        due("33: changes across", x.swaps(0), 3);
        due("33: the first across", x.swaps(1), 3);
        due("33: in mind", x.tenant(0, 0) * 100 + x.tenant(3, 0), 10);
        due("33: what mends two mends no third", x.swaps(2), 0);
        // 1 falls on 0, 2 on 1 and 0, 0 rises to 1 and 2; 0 to the top, 2 to 1's, 1 to the ground mends all
        x = told("f31;w0090;w1090;w2090;h1,090;h2,030;h0,450;");
        due("33: one ring, 0 to 2's, 2 to 1's, 1 to 0's", x.swaps(2), 1);
        due("33: one pair beside it", x.swaps(0) * 10 + x.swaps(1), 11);
    }

    private static void pegs() {
        DripsOnBelow x = told("f62;");
        due("34: just above of five", x.peg(0, 2, 0) * 10 + x.peg(0, 2, 1), 13);
        due("34: higher of five", x.peg(0, 10, 0) * 10 + x.peg(0, 10, 1), 16);
        due("34: just above of four", x.peg(10, 4, 0) * 10 + x.peg(10, 4, 1), 25);
        due("34: higher of four", x.peg(10, 6, 0) * 10 + x.peg(10, 6, 1), 15);
        due("34: just above of three", x.peg(21, 7, 0) * 10 + x.peg(21, 7, 1), 12);
        due("34: higher of three", x.peg(21, 11, 0) * 10 + x.peg(21, 11, 1), 14);
        due("34: surely", x.peg(41, 11, 0) * 10 + x.peg(41, 11, 1), 11);
        due("34: nobody is above", x.peg(50, 0, 0) * 10 + x.peg(50, 0, 1), 1);
        due("34: who lives there", x.peg(0, 0, 0) * 10 + x.peg(0, 0, 1), 1);
        due("34: who lives below", x.peg(10, 0, 0) * 10 + x.peg(10, 0, 1), 1);
        due("34: who lives aside", x.peg(0, 3, 0) * 10 + x.peg(0, 3, 1), 1);
        x.move(2, 10);
        due("34: who has moved", x.peg(0, 10, 0) * 10 + x.peg(0, 10, 1), 13);
        due("34: no such flat", x.peg(2, 0, 5), 4000000000000000001L);
        due("34: no such tenant", x.peg(0, 12, 5), 4000000000000000001L);
        due("34: tenant below", x.peg(0, -1, 0), 4000000000000000001L);
        due("34: other part", x.peg(0, 0, 2), 4000000000000000002L);
        due("34: part below", x.peg(0, 0, -1), 4000000000000000002L);
        refusals("34", x, -1, -1, -1, -2, -2);
    }

    private static void rows() {
        DripsOnBelow x = told("f31;s109;w0090;h2,060;");
        due("35: below", x.row(-1), -4);
        due("35: above", x.row(1000), -6);
        due("36: of none", x.judge(), -9);
        int[] week = {0, 2, 5, 5};
        for (int i = 0; i < week.length; i++) {
            due("35: how many", x.row(week[i]), i + 1);
        }
        due("35: in the row", x.count(9), 4);
        due("36: all are so", x.judge(), -9);
        due("36: none is left", x.count(9), 0);
        due("36: in mind", x.count(3) + x.count(5), 0);
        x.row(0);
        x.row(2);
        x.row(4);
        x.row(4);
        due("36: the first that is not so", x.judge(), 2);
        due("36: none is left with a fault", x.count(9), 0);
        x.row(999);
        due("36: the first", x.judge(), 0);
        for (int i = 1; i <= 10; i++) {
            due("35: " + i, x.row(i), i);
        }
        due("35: no room", x.row(0), -6);
        due("35: below, ahead of no room", x.row(-5), -4);
        refusals("35, 36", x, -4, -6, -6, -4);
    }

    private static int draw(int z) {
        return (z & 0x7fffffff) / 65536 % 8;
    }

    private static void seeds() {
        DripsOnBelow x = told("f21;w0090;h1,010;h1,020;h1,040;");
        for (int seed : new int[] {0, 1, -1, 12345, Integer.MAX_VALUE, Integer.MIN_VALUE, -987654321}) {
            int z = seed;
            int harm = 0;
            for (int n = 1; n <= 20; n++) {
                for (int v : new int[] {1, 2, 4}) {
                    z = z * 1103515245 + 12345;
                    harm += draw(z) == 0 ? v : 0;
                }
                due("37: " + n + " weeks of " + seed, x.seeds(n, seed), harm);
            }
        }
        x.wash(0, 0, 0);
        due("37: from how all is now", x.seeds(20, 1), 0);
        due("37: none", x.seeds(0, 5), -4);
        due("37: too many", x.seeds(21, 5), -6);
        due("37: in mind", x.habit(0, 3) + x.habit(1, 3) + x.habit(2, 3) + x.count(3), 0);
        refusals("37", x, -4, -6);
    }

    private static void images() {
        DripsOnBelow x = told("f21;s009;w0090;h1,090;b+;b0;");
        due("39: there is none", x.restore(), -3);
        x.week();
        due("38: the week", x.image(), 1);
        x.feed('f');
        x.row(5);
        x.week();
        x.wash(0, 1, 1);
        x.awning(0, 1);
        x.wind(-1);
        x.move(0, 1);
        x.put(0, 5);
        x.saucer(10, 4);
        due("39: the week of it", x.restore(), 1);
        int[] want = {2, 1, 1, 1, 1, 8, 9, 9, 1, 1, -9, 0, 0, 1, 0, 0, 0};
        for (int i = 0; i < want.length; i++) {
            due("39: count " + i, x.count(i), want[i]);
        }
        due("39: washing", x.flat(0, 3), 9);
        due("39: awning", x.flat(0, 2), 1);
        due("39: home", x.tenant(0, 0), 0);
        due("39: hour", x.habit(0, 3), 0);
        due("39: saucer", x.flat(10, 0), 0);
        due("39: anger", x.anger(0, 1), 9);
        x.front();
        due("39: another front", tell(x, "f64;h23,391;"), 2);
        x.week();
        due("39: again", x.restore(), 1);
        due("39: the front", x.count(0) * 10 + x.count(1), 21);
        due("39: its habit", x.habit(0, 1) * 10 + x.habit(0, 2), 9);
        // the latest week is of the image too: revenge goes on as it did
        x = told("f31;w00901234567;w1091;h2,091;h1,020;");
        x.week();
        x.image();
        int climbs = x.climbs();
        x.wash(10, 0, 0);
        x.week();
        x.restore();
        due("39: climbs as ahead of it", x.climbs(), climbs);
        due("39: climbs", climbs, 7);
    }

    private static void counts() {
        DripsOnBelow x = told("f31;s109;s009;w0090;h2,080;h2,370;h1,061;");
        due("15: heavy 7, twice; nothing else comes", x.week(), 14);
        due("40: held: 8 - 1 and 6 - 1", x.count(5), 12);
        due("40: harm", x.count(6), 14);
        due("40: anger", x.count(7), 14);
        due("40: below", x.count(-1), -9);
        due("40: 10", x.count(10), -9);
        due("40: 17", x.count(17), -9);
        due("40: far", x.count(Integer.MIN_VALUE), -9);
        refusals("40: another what is no refusal", x);
        x.quiet(1, 0);
        x.feed(-1);
        x.feed(999);
        x.down(9);
        x.count(17);
        x.swaps(9);
        refusals("40: each its own", x, -3, -4, -6, -1, -2);
    }

    /** No numbers make a call fail. */
    private static void anyNumbers() {
        int[] odd = {Integer.MIN_VALUE, -1000000000, -11, -2, -1, 0, 1, 7, 8, 9, 10, 23, 24, 53, 96, 255, 256,
            1000000000, Integer.MAX_VALUE};
        for (String front : new String[] {"f21;", "f64;h23,590;h23,294;h0,492;h7,175;", "f32;h5,390;"}) {
            for (int a : odd) {
                for (int b : odd) {
                    DripsOnBelow x = told(front);
                    all(x, a, b, 0);
                    all(x, a, b, 1);
                    for (int c : odd) {
                        all(x, a, b, c);
                    }
                    due("no number fails", x.count(0) >= 2 ? 1 : 0, 1);
                }
            }
        }
    }

    private static void all(DripsOnBelow x, int a, int b, int c) {
        x.feed(a);
        x.flat(a, b);
        x.tenant(a, b);
        x.anger(a, b);
        x.habit(a, b);
        x.put(a, b);
        x.saucer(a, b);
        x.awning(a, b);
        x.wash(a, b, c);
        x.wind(a);
        x.move(a, b);
        x.steps(a, b);
        x.down(a);
        x.whom(a, b);
        x.does(a, b);
        x.harmed(a, b);
        x.least(a, b);
        x.hours(a, b, c);
        x.quiet(a, b);
        x.hang(a);
        x.big(a);
        x.leads(a);
        x.whose(a, b);
        x.deal(a, b);
        x.pays(a, b, c);
        x.worth(a);
        x.peg(a, b, c);
        x.row(a);
        x.seeds(a, b);
        x.count(a);
        x.week();
        x.front();
    }

    public static void main(String[] args) {
        aNewObject();
        feed();
        frontFaults();
        fronts();
        asks();
        becomes();
        weeks();
        kinds();
        harms();
        ways();
        waysOfNothing();
        harmedOnes();
        hoursOf();
        quietHours();
        bestOfFlats();
        deals();
        revenge();
        worths();
        changes();
        pegs();
        rows();
        seeds();
        images();
        counts();
        anyNumbers();
        System.out.println(asked + " asked, " + wrong + " not as due");
        if (wrong != 0) {
            System.exit(1);
        }
    }
}
