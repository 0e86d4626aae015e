/** Promises 30 and 33 to 38: what is tried and planned: BEST, WARNS, BEARS, CLOSING, POWER and HOURS. */
final class EdgesOfPlans {
    private static final long WHOLE = 100000000;

    private EdgesOfPlans() {
    }

    static void run() {
        bestOf();
        bars();
        warns();
        warnsNot();
        warnsByRain();
        triedAgain();
        bears();
        closing();
        closingFrom();
        power();
        hours();
        hoursInPieces();
        firstHour();
    }

    private static void bestDue(String what, GorgeDay x, int best, int bars) {
        Edges.due(what + ": best", x.best(0, false), best);
        Edges.due(what + ": bars", x.best(0, true), bars);
    }

    private static void bestOf() {
        Edges.edge(30,
                "at a STEP from a QUARTER on (to the end), that are JUDGED 0: the least HARM, of several the "
                        + "least STEP, then the latest QUARTER: 100 times the STEP and the QUARTER; none.",
                "BEST (bars false; NONE), or BARS.");
        bestDue("BY 0: QUARTER 0", Edges.gorge("lake 10 100 9 0;gate 10"), 100, 0);
        bestDue("BY 95: QUARTER 95", Edges.gorge("lake 10 100 9 95;gate 10"), 195, 0);
        bestDue("BY 40: QUARTER 40", Edges.gorge("lake 10 100 9 40;gate 10"), 140, 0);
        bestDue("the last STEP of 6", Edges.gorge("lake 10 100 9 95;gate 0 0 0 0 0 10"), 695, 0);
        bestDue("the last STEP of 2", Edges.gorge("lake 10 100 9 95;gate 0 10"), 295, 0);
        bestDue("the least STEP of several", Edges.gorge("lake 10 100 9 95;gate 0 10 10 99"), 295, 0);
        bestDue("no STEP lets enough go", Edges.gorge("lake 10 100 0 95;gate 0 0"), Edges.NONE, 1);
        bestDue("nothing need be done", Edges.gorge("lake 10 100 10 95;gate 10"), 195, 0);
        // STEP 1 makes the PLACE WET, STEP 2 does not; by STEP 3 the lake is not low in time.
        GorgeDay x = Edges.gorge("lake 10 100 9 95;gate 20 10 9;reach 1 100 100 0 0;place 0 15 0 7");
        bestDue("the least HARM goes ahead of the least STEP", x, 295, 0);
        Edges.tape(x, "place 0 0 0 1").gorge();
        bestDue("if HARM cannot be none", x, 295, 0);
        // The later it opens the deeper is the REACH: PLACE 0 is WET from QUARTER 50 on.
        GorgeDay y = Edges.gorge("lake 10 100 9 95;gate 10;reach 1 100 100 0 1;rain 50 95 1;place 0 10 0 7");
        bestDue("the least HARM goes ahead of the latest QUARTER", y, 100 + quarterOfNoHarm(y), 0);

        Edges.edge(30, "BEST of a GATE: of all OPENINGS of it alone");
        GorgeDay z = Edges.gorge("lake 10 100 9 95;gate 0;gate 10");
        z.open();
        z.step(0, 1, 0, 95, 1);
        bestDue("another GATE is shut", z, Edges.NONE, 1);
        Edges.due("the other one", z.best(1, false), 195);
        Edges.due("OPENINGS are as they were", z.stepAt(0, 1, 0), 1);
        Edges.due("and as many", z.count(4), 1);
    }

    /** The latest QUARTER from which on GATE 0 may be open at STEP 1 without HARM, found one by one. */
    private static int quarterOfNoHarm(GorgeDay x) {
        int latest = Edges.NONE;
        x.open();
        for (int q = 0; q < 96; q++) {
            x.step(0, 0, 0, 95, 0);
            x.step(0, 0, q, 95, 1);
            if (x.harm(0) == 0 && x.judge(0) == 0) {
                latest = q;
            }
        }
        Edges.due("there is such a QUARTER, and it is not the last", latest >= 0 && latest < 95, true);
        return latest;
    }

    private static void bars() {
        Edges.edge(30, "BARS: what most of these are JUDGED (1 to 4, of several the least); 0, if some is JUDGED 0.");
        bestDue("one alone is JUDGED 0 of 96", Edges.gorge("lake 10 100 9 0;gate 10"), 100, 0);
        // Open by QUARTER 47 the lake is low in 47, and the PLACE is WET: 48 of each.
        GorgeDay x = harmful(47);
        bestDue("48 by LEVEL and 48 by HARM: the least", x, Edges.NONE, 1);
        bestDue("47 by LEVEL and 49 by HARM", harmful(48), Edges.NONE, 4);
        bestDue("49 by LEVEL and 47 by HARM", harmful(46), Edges.NONE, 1);
        bestDue("95 by LEVEL and 1 by HARM", harmful(0), Edges.NONE, 1);
        bestDue("of two STEPS 96 by LEVEL and 96 by HARM: those that it has not do not count", harmful(95, "gate 0 10"), Edges.NONE, 1);
        bestDue("of three STEPS 96 by LEVEL and 192 by HARM", harmful(95, "gate 0 10 10"), Edges.NONE, 4);
        GorgeDay falls = harmful(48);
        falls.bounds(0, 0, 99999);
        bestDue("by FALL", falls, Edges.NONE, 3);
        GorgeDay fears = harmful(48);
        fears.person(0, 0, 95, 0, 0, 99);
        bestDue("by FEAR", fears, Edges.NONE, 2);
        GorgeDay tied = harmful(47);
        tied.person(0, 0, 95, 0, 0, 99);
        bestDue("48 by LEVEL and 47 by FEAR, and one by HARM", tied, Edges.NONE, 1);
        GorgeDay never = Edges.gorge("lake 10 100 9 95;gate 10;reach 1 0 0 0 9;rain 0 95 1;place 0 0 0 7");
        never.bounds(0, 999, 6);
        bestDue("all 96 by HARM", never, Edges.NONE, 4);
    }

    /** 10 are let go in each QUARTER that is open, so much that the PLACE is WET; GOAL is met by one QUARTER. */
    private static GorgeDay harmful(int by) {
        return harmful(by, "gate 10");
    }

    private static GorgeDay harmful(int by, String gate) {
        GorgeDay x = Edges.gorge("lake 1 9999 9998 " + by + ";" + gate + ";reach 1 100 100 0 0;place 0 5 0 7");
        x.bounds(0, 999, 6);
        return x;
    }

    /** Nothing stays in the REACH; PLACE 0 is WET above 50, with OFF 2. The great flow of STEP 3 comes in QUARTER 10. */
    private static GorgeDay waved() {
        GorgeDay x = Edges.opened("lake 1 1000 0 95;gate 30 40 900;reach 1 100 100 0 0;place 0 50 2 1");
        x.step(0, 0, 10, 95, 3);
        return x;
    }

    private static void warns() {
        Edges.edge(33,
                "WARNS: of all waves of one QUARTER at a STEP of a GATE, in a QUARTER ahead of the first in "
                        + "which that GATE is open");
        GorgeDay x = waved();
        x.person(0, 0, 40, 0, 0, 30);
        Edges.due("by OFF 2 the wave may come in QUARTER 8", x.warns(0, 0), 108);
        GorgeDay zero = Edges.opened("lake 1 1000 0 95;gate 30 40 900;reach 1 100 100 0 0;place 0 50 0 1");
        zero.step(0, 0, 10, 95, 3);
        zero.person(0, 0, 40, 0, 0, 30);
        Edges.due("it sees the great one itself", zero.fear(0), 0);
        Edges.due("so none warns", zero.warns(0, 0), Edges.NONE);
        GorgeDay one = Edges.opened("lake 1 1000 0 95;gate 30 40 900;reach 1 100 100 0 0;place 0 50 1 1");
        one.step(0, 0, 10, 95, 3);
        one.person(0, 0, 40, 0, 0, 30);
        Edges.due("by OFF 1 in the QUARTER ahead of the first", one.warns(0, 0), 109);
        one.step(0, 0, 0, 10, 0);
        one.step(0, 0, 1, 95, 3);
        Edges.due("QUARTER 0 alone is ahead", one.warns(0, 0), 100);
        Edges.due("the OPENING stays", one.stepAt(0, 0, 0), 0);

        Edges.edge(33,
                "that by which FEAR is the least, of several the least STEP, then the latest QUARTER: 100 "
                        + "times the STEP and the QUARTER");
        GorgeDay y = waved();
        y.person(0, 0, 40, 0, 0, 31);
        Edges.due("one sees 31 and not 30", y.warns(0, 0), 208);
        y.person(0, 0, 40, 0, 0, 30);
        y.person(0, 0, 40, 0, 0, 30);
        Edges.due("the least FEAR, by the greater STEP", y.warns(0, 0), 208);
        GorgeDay some = waved();
        some.person(0, 0, 40, 0, 0, 30);
        some.person(0, 0, 40, 0, 0, 41);
        Edges.due("41 is seen by the great one: then it is WET when they come", some.warns(0, 0), 300);
        GorgeDay last = Edges.opened("lake 1 1000 0 95;gate 30 900;reach 1 100 100 0 0;place 0 50 2 1");
        last.step(0, 0, 95, 95, 6);
        last.person(0, 0, 95, 0, 93, 30);
        Edges.due("open in QUARTER 95 alone", last.warns(0, 0), 193);
    }

    private static void warnsNot() {
        Edges.edge(33, "none, if it is never open, or FEAR would not be less.");
        GorgeDay x = waved();
        x.person(0, 0, 40, 0, 0, 30);
        x.step(0, 0, 0, 95, 0);
        Edges.due("never open", x.warns(0, 0), Edges.NONE);
        x.step(0, 0, 0, 95, 3);
        Edges.due("open in QUARTER 0", x.warns(0, 0), Edges.NONE);
        x.step(0, 0, 0, 9, 0);
        x.step(0, 0, 0, 0, 1);
        Edges.due("open in QUARTER 0, then shut", x.warns(0, 0), Edges.NONE);
        x.person(0, 0, 40, 0, 0, 31);
        Edges.due("though a wave behind it would warn one", x.warns(0, 0), Edges.NONE);
        GorgeDay y = waved();
        Edges.due("FEAR is 0", y.warns(0, 0), Edges.NONE);
        y.person(0, 5, 40, 0, 9, 99);
        Edges.due("FEAR", y.fear(0), WHOLE);
        GorgeDay z = waved();
        z.person(0, 8, 9, 0, 0, 1);
        Edges.due("one who is gone by then", z.warns(0, 0), Edges.NONE);
        GorgeDay other = Edges.opened("lake 1 1000 0 95;gate 30;gate 900;reach 1 100 100 0 0;place 0 50 2 1");
        other.person(0, 0, 40, 0, 0, 30);
        other.step(0, 1, 10, 95, 1);
        Edges.due("another GATE is open, that one never", other.warns(0, 0), Edges.NONE);
        other.step(0, 0, 95, 95, 1);
        Edges.due("that one is open at last", other.warns(0, 0), 108);
        GorgeDay fourth = Edges.opened("gate 1;gate 1;gate 1;gate 1");
        Edges.due("GATE 3 is never open", fourth.warns(0, 3), Edges.NONE);
        fourth.step(0, 3, 95, 95, 1);
        Edges.due("GATE 3 is open in QUARTER 95", fourth.warns(0, 3), Edges.NONE);
    }

    private static void warnsByRain() {
        Edges.edge(33, "of all waves of one QUARTER at a STEP of a GATE");
        // PLACE 1 has so much OFF that QUARTER 0 alone is in time; one there sees 30, the one at PLACE 0 sees 31.
        GorgeDay x = Edges.opened("lake 1 1000 0 95;gate 30 40 900;reach 1 100 100 0 0;place 0 50 2 1;place 0 50 10 1");
        x.step(0, 0, 10, 95, 3);
        x.person(0, 0, 40, 0, 0, 31);
        x.person(1, 0, 40, 0, 0, 30);
        Edges.due("one wave alone: by two of them it would be 208", x.warns(0, 0), 200);
        // RAIN is as it was told: by 1 more or less the REACH would not rise by 30, or the PLACE would be WET.
        GorgeDay rain = Edges.opened("lake 1 1000 0 95;gate 30 40 900;reach 1 100 100 0 20;place 0 50 2 1;rain 0 95 1");
        rain.step(0, 0, 10, 95, 3);
        rain.person(0, 1, 40, 0, 0, 30);
        Edges.due("with RAIN", rain.warns(0, 0), 108);
        GorgeDay dry = Edges.opened("lake 1 1000 0 95;gate 30 40 900;reach 1 100 100 0 60;place 0 50 2 1");
        dry.step(0, 0, 10, 95, 3);
        dry.person(0, 1, 40, 0, 0, 30);
        Edges.due("without RAIN", dry.warns(0, 0), 108);
        GorgeDay wet = Edges.opened("lake 1 1000 0 95;gate 30 40 900;reach 1 100 100 0 60;place 0 50 2 1;rain 1 1 1");
        wet.step(0, 0, 10, 95, 3);
        wet.person(0, 1, 40, 0, 0, 99);
        Edges.due("WET by RAIN in QUARTER FROM: no FEAR", wet.fear(0), 0);
        Edges.due("and none warns", wet.warns(0, 0), Edges.NONE);
        GorgeDay early = Edges.opened("lake 1 1000 0 95;gate 30 40 900;reach 1 100 100 0 60;place 0 50 2 1;rain 3 3 1");
        early.step(0, 0, 10, 95, 3);
        early.person(0, 0, 40, 0, 0, 99);
        Edges.due("WET by RAIN too early to be warned: it must be WET in QUARTER FROM", early.warns(0, 0), 300);
    }

    private static void triedAgain() {
        Edges.edge(30, "0, if some is JUDGED 0.");
        GorgeDay x = Edges.gorge("lake 10 100 9 95;gate 10");
        bestDue("GOAL 9", x, 195, 0);
        Edges.tape(x, "lake 10 100 0 0").gorge();
        bestDue("then GOAL 0", x, Edges.NONE, 1);
        Edges.tape(x, "lake 10 100 9 0").gorge();
        bestDue("then GOAL 9 again", x, 100, 0);
        // RAIN is as it was told in the QUARTERS ahead, too.
        GorgeDay dry = Edges.gorge("lake 10 100 9 95;gate 10;reach 1 100 100 0 99;place 0 10 0 7");
        dry.bounds(0, 999, 6);
        bestDue("without RAIN", dry, 195, 0);
        Edges.tape(dry, "rain 0 0 1").gorge();
        bestDue("with RAIN in QUARTER 0 alone", dry, Edges.NONE, 4);
    }

    private static void bears() {
        Edges.edge(34,
                "BEARS: the greatest number 0 to 9 of RAIN more in each QUARTER by which an OPENING is "
                        + "JUDGED 0; none.",
                "BEARS; NONE.");
        // 96 for each of RAIN; the PLACE bears as many times 96 as it is dry.
        for (int bears = 0; bears <= 9; bears++) {
            GorgeDay x = Edges.opened("reach 1 0 0 0 1;place 0 " + 96 * bears + " 0 5");
            x.bounds(0, 999, 4);
            Edges.due("DRY " + 96 * bears, x.bears(0), bears);
        }
        GorgeDay ten = Edges.opened("reach 1 0 0 0 1;place 0 999 0 5");
        ten.bounds(0, 999, 4);
        Edges.due("10 would be borne, 9 is told", ten.bears(0), 9);
        Edges.tape(ten, "rain 0 95 9").gorge();
        Edges.due("9 and 1 more", ten.bears(0), 1);
        GorgeDay nine = Edges.opened("reach 10 0 0 0 1;place 0 999 0 5;rain 0 95 9");
        nine.bounds(0, 999, 4);
        Edges.due("RAIN may be 18 by that", nine.bears(0), 9);
        GorgeDay one = Edges.opened("reach 1 0 0 0 1;place 0 95 0 5;rain 0 95 1");
        one.bounds(0, 999, 4);
        Edges.due("not even 0 more", one.bears(0), Edges.NONE);
        Edges.due("without REACHES", Edges.opened("gate 1").bears(0), 9);
        Edges.due("a LEVEL above GOAL", Edges.opened("lake 1 1 0 95").bears(0), Edges.NONE);
        // By no RAIN more one is caught, by some it is WET when one comes: the greatest counts, though 0 is not borne.
        GorgeDay early = Edges.opened("reach 1 100 100 0 1;rain 20 20 9;place 0 8 0 0");
        early.person(0, 0, 95, 0, 0, 99);
        Edges.due("0 is not borne, but 9 is", early.bears(0), 9);
        Edges.due("0 more", early.judge(0), 2);
    }

    /** The lake is so great that each STEP lets its FLOW go in QUARTER 0, and one less from then on. */
    private static GorgeDay closed(String gate, int quick) {
        GorgeDay x = Edges.opened("lake 1 999999 0 95;" + gate + ";reach 1 " + quick + " " + quick + " 0 0");
        x.step(0, 0, 0, 95, 6);
        return x;
    }

    private static void closing() {
        Edges.edge(35,
                "down to 0: the least such number (1 to 12) by which no FALL is above the bound; none.",
                "CLOSING; NONE.");
        // A STEP less lets 10 less go, and nothing stays in the REACH: it falls by 10, however slowly.
        GorgeDay x = closed("gate 10 20 30 40 50 60", 100);
        x.bounds(0, 10, 0);
        Edges.due("FALL 10 by 10", x.closing(0, 0, 40), 1);
        x.bounds(0, 9, 0);
        Edges.due("FALL 10 by 9", x.closing(0, 0, 40), Edges.NONE);
        x.bounds(0, 0, 0);
        Edges.due("any FALL by 0", x.closing(0, 0, 40), Edges.NONE);
        // Nine of ten stay: the slower, the less it falls, so that each number is the least one by some bound.
        GorgeDay y = closed("gate 100 200 300 400 500 600", 10);
        y.copy(0);
        for (int each = 1; each <= 12; each++) {
            int fall = fallOfClosing(y, each);
            y.bounds(0, fall, 0);
            Edges.due("by FALL " + fall, y.closing(0, 0, 20), each);
            y.bounds(0, fall - 1, 0);
            Edges.due("by one less", y.closing(0, 0, 20), each == 12 ? Edges.NONE : each + 1);
        }
        Edges.due("13 would fall less still", fallOfClosing(y, 13) < fallOfClosing(y, 12), true);
        Edges.due("the OPENING stays", y.stepAt(0, 0, 95), 6);
    }

    private static int fallOfClosing(GorgeDay x, int each) {
        x.step(1, 0, 0, 95, 6);
        x.slow(1, 0, 20, 0, each);
        return x.most(1, 0, true, false);
    }

    private static void closingFrom() {
        Edges.edge(35, "(the first one in that QUARTER; from the STEP ahead of it, 0 in QUARTER 0)");
        GorgeDay x = closed("gate 10 20 30", 100);
        x.bounds(0, 0, 0);
        Edges.due("in QUARTER 0 it is shut at once", x.closing(0, 0, 0), 1);
        Edges.due("in QUARTER 1 it is not", x.closing(0, 0, 1), Edges.NONE);
        x.step(0, 0, 0, 4, 0);
        Edges.due("shut in the QUARTER ahead", x.closing(0, 0, 5), 1);
        Edges.due("open in the QUARTER ahead", x.closing(0, 0, 6), Edges.NONE);
        GorgeDay late = closed("gate 10 20 30", 100);
        late.step(0, 0, 0, 95, 3);
        late.bounds(0, 9, 0);
        Edges.due("its FALL of 10 comes in QUARTER 95", late.closing(0, 0, 95), Edges.NONE);
        late.bounds(0, 10, 0);
        Edges.due("it is no more", late.closing(0, 0, 95), 1);
        GorgeDay ahead = closed("gate 10 20 30", 100);
        ahead.step(0, 0, 10, 10, 0);
        ahead.bounds(0, 10, 0);
        Edges.due("a FALL that lies ahead is above the bound", ahead.closing(0, 0, 50), Edges.NONE);
        // The REACH keeps all until it is 20 deep: that it is by RAIN alone, and never without.
        GorgeDay dry = Edges.opened("lake 1 10 0 0;gate 10;reach 1 0 100 20 1");
        dry.bounds(0, 0, 0);
        dry.step(0, 0, 0, 0, 1);
        Edges.due("without RAIN nothing goes", dry.closing(0, 0, 5), 1);
        Edges.tape(dry, "rain 0 95 1").gorge();
        Edges.due("by RAIN it does", dry.closing(0, 0, 5), Edges.NONE);
        GorgeDay none = Edges.opened("lake 1 5 0 0;gate 5");
        none.bounds(0, 0, 0);
        none.step(0, 0, 0, 95, 1);
        Edges.due("without REACHES", none.closing(0, 0, 50), 1);
    }

    private static void power() {
        Edges.edge(36, "TURBINE (0 to 9999; 0 at first).");
        GorgeDay x = Edges.opened("lake 1 999999 0 0;gate 9999;gate 9999;price 0 0 99;price 95 95 1;into 0 95 9999");
        x.step(0, 0, 0, 95, 1);
        Edges.due("0 at first", x.count(11), 0);
        Edges.due("no POWER by 0", x.power(0), 0);
        x.turbine(1);
        Edges.due("1", x.power(0), 100);
        x.turbine(9999);
        Edges.due("the most", x.power(0), 99 * 9999 + 9999);
        Edges.due("count", x.count(11), 9999);

        Edges.edge(37, "in each QUARTER what is LET GO (of all GATES; TURBINE at most) times PRICE, together.");
        x.step(0, 1, 0, 0, 1);
        Edges.due("both GATES let more go", x.flow(0, 0, false), 2 * 9999);
        Edges.due("of both no more than TURBINE", x.power(0), 99 * 9999 + x.flow(0, 95, false));
        GorgeDay y = Edges.opened("lake 1 100 0 0;gate 6;gate 5;price 0 0 10");
        y.step(0, 0, 0, 0, 1);
        y.step(0, 1, 0, 0, 1);
        int[] turbines = {0, 5, 10, 11, 12};
        int[] powers = {0, 50, 100, 110, 110};
        for (int i = 0; i < turbines.length; i++) {
            y.turbine(turbines[i]);
            Edges.due("TURBINE " + turbines[i], y.power(0), powers[i]);
        }
        Edges.tape(y, "price 0 95 0;price 95 95 3").gorge();
        y.step(0, 0, 95, 95, 1);
        Edges.due("QUARTER 95 alone", y.power(0), 3 * y.flow(0, 95, false));
        GorgeDay most = Edges.opened("lake 1 999999 0 0;gate 9999;into 0 95 9999;price 0 95 99");
        most.turbine(9999);
        most.step(0, 0, 0, 95, 1);
        Edges.due("the most POWER", most.power(0), 96L * 99 * 9999);
    }

    private static void hours() {
        Edges.edge(38, "HOURS: a GATE is open at a STEP in just so many QUARTERS (0 to 96) from a QUARTER on");
        GorgeDay x = Edges.gorge("gate 10 20;price 0 0 9;price 94 95 7;price 50 50 8");
        x.turbine(9999);
        Edges.due("none of them", x.hours(0, 1, 0, 0, 1, false), 0);
        Edges.due("one: the dearest", x.hours(0, 1, 0, 1, 1, false), 90);
        Edges.due("one from QUARTER 1 on", x.hours(0, 1, 1, 1, 1, false), 80);
        Edges.due("one from QUARTER 50 on", x.hours(0, 1, 50, 1, 1, false), 80);
        Edges.due("one from QUARTER 51 on", x.hours(0, 1, 51, 1, 1, false), 70);
        Edges.due("one from QUARTER 95 on", x.hours(0, 1, 95, 1, 1, false), 70);
        Edges.due("two from QUARTER 94 on", x.hours(0, 1, 94, 2, 1, false), 140);
        Edges.due("all of the day", x.hours(0, 1, 0, 96, 1, false), 310);
        Edges.due("more than are left", x.hours(0, 1, 1, 96, 1, false), Edges.NONE);
        Edges.due("as many as are left", x.hours(0, 1, 1, 95, 1, false), 220);
        Edges.due("two from QUARTER 95 on", x.hours(0, 1, 95, 2, 1, false), Edges.NONE);
        Edges.due("just so many, also where nothing is paid", x.hours(0, 1, 1, 4, 1, false), 220);

        Edges.edge(38, "the most POWER, by FLOW as it is, TURBINE at most; none, if it cannot be");
        Edges.due("STEP 0", x.hours(0, 0, 0, 5, 1, false), 0);
        Edges.due("STEP 2", x.hours(0, 2, 0, 1, 1, false), 180);
        Edges.due("a STEP that it does not have", x.hours(0, 6, 0, 1, 1, false), 180);
        int[] turbines = {0, 9, 10, 11};
        int[] most = {0, 81, 90, 90};
        for (int i = 0; i < turbines.length; i++) {
            x.turbine(turbines[i]);
            Edges.due("TURBINE " + turbines[i], x.hours(0, 1, 0, 1, 1, false), most[i]);
        }
        GorgeDay great = Edges.gorge("gate 9999;price 0 95 99");
        great.turbine(9999);
        Edges.due("the most", great.hours(0, 1, 0, 96, 96, false), 96L * 99 * 9999);
        GorgeDay empty = Edges.gorge("lake 1 0 0 0;gate 5;price 0 95 1");
        empty.turbine(9);
        Edges.due("by FLOW, though the lake is empty", empty.hours(0, 1, 0, 2, 1, false), 10);
    }

    private static void hoursInPieces() {
        Edges.edge(38, "in pieces of so many at least (1 to 96)");
        GorgeDay x = Edges.gorge("gate 10;price 10 10 9;price 20 20 8;price 30 31 5;price 94 95 4");
        x.turbine(10);
        Edges.due("two pieces of 1", x.hours(0, 1, 0, 2, 1, false), 170);
        Edges.due("one piece of 2", x.hours(0, 1, 0, 2, 2, false), 100);
        Edges.due("3 cannot be in pieces of 2 but as one", x.hours(0, 1, 0, 3, 2, false), 100);
        Edges.due("two pieces of 2", x.hours(0, 1, 0, 4, 2, false), 190);
        Edges.due("two pieces of 2 behind QUARTER 21", x.hours(0, 1, 21, 4, 2, false), 180);
        Edges.due("less than a piece", x.hours(0, 1, 0, 1, 2, false), Edges.NONE);
        Edges.due("one piece of so many", x.hours(0, 1, 0, 11, 11, false), 170);
        Edges.due("one less than a piece", x.hours(0, 1, 0, 11, 12, false), Edges.NONE);
        Edges.due("a piece of 96", x.hours(0, 1, 0, 96, 96, false), 350);
        Edges.due("a piece of 95 from QUARTER 1 on", x.hours(0, 1, 1, 95, 95, false), 350);
        Edges.due("a piece of 95 from QUARTER 2 on", x.hours(0, 1, 2, 95, 95, false), Edges.NONE);
        Edges.due("of none no piece is too short", x.hours(0, 1, 0, 0, 96, false), 0);
        Edges.due("of none from QUARTER 95 on", x.hours(0, 1, 95, 0, 96, false), 0);
        // A piece may be longer: 2 at least, 5 in all, as 2 and 3.
        GorgeDay y = Edges.gorge("gate 10;price 10 12 9;price 20 21 8");
        y.turbine(10);
        Edges.due("a piece of 2 and one of 3", y.hours(0, 1, 0, 5, 2, false), 430);
        Edges.due("one of 5", y.hours(0, 1, 0, 5, 3, false), 270);
        // Two pieces must not touch one another: they would be one.
        Edges.due("3 and 3", y.hours(0, 1, 0, 6, 3, false), 430);
        Edges.due("a piece at the end of the day", x.hours(0, 1, 90, 2, 2, false), 80);
    }

    private static void firstHour() {
        Edges.edge(38,
                "FIRST: the least QUARTER with which a plan of so much begins; none without QUARTERS.",
                "HOURS (first false), or FIRST; NONE.");
        GorgeDay x = Edges.gorge("gate 10;price 10 10 9;price 20 20 9;price 95 95 9");
        x.turbine(10);
        Edges.due("of three the least", x.hours(0, 1, 0, 1, 1, true), 10);
        Edges.due("from QUARTER 10 on", x.hours(0, 1, 10, 1, 1, true), 10);
        Edges.due("from QUARTER 11 on", x.hours(0, 1, 11, 1, 1, true), 20);
        Edges.due("from QUARTER 21 on", x.hours(0, 1, 21, 1, 1, true), 95);
        Edges.due("what is not paid may come ahead", x.hours(0, 1, 0, 2, 2, true), 9);
        Edges.due("but not ahead of where one may begin", x.hours(0, 1, 10, 2, 2, true), 10);
        Edges.due("four: QUARTER 0 and those that are paid", x.hours(0, 1, 0, 4, 1, true), 0);
        Edges.due("from QUARTER 5 on", x.hours(0, 1, 5, 4, 1, true), 5);
        Edges.due("without QUARTERS", x.hours(0, 1, 0, 0, 1, true), Edges.NONE);
        Edges.due("without QUARTERS from 95 on", x.hours(0, 1, 95, 0, 1, true), Edges.NONE);
        Edges.due("cannot be", x.hours(0, 1, 95, 2, 1, true), Edges.NONE);
        Edges.due("cannot be in such pieces", x.hours(0, 1, 0, 2, 3, true), Edges.NONE);
        Edges.due("all of the day", x.hours(0, 1, 0, 96, 96, true), 0);
        Edges.due("nothing is worth anything: the first QUARTER", x.hours(0, 0, 33, 2, 2, true), 33);
        Edges.due("QUARTER 95", x.hours(0, 1, 95, 1, 1, true), 95);
    }
}
