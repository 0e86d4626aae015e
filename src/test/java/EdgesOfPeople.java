import java.util.ArrayList;
import java.util.List;

/** Promises 22 to 29 and 31, 32: PEOPLE, who calls them, what they fear, and how an OPENING is JUDGED. */
final class EdgesOfPeople {
    private static final long WHOLE = 100000000;

    private EdgesOfPeople() {
    }

    static void run() {
        roomForPeople();
        roomForCalls();
        callsPutAway();
        caught();
        fromAndAwake();
        offOfPlace();
        seesTheWater();
        odds();
        fear();
        fearBound();
        fallBound();
        harmBound();
        levelAndOrder();
        whom();
        wardenGoes();
        wardenCalls();
        wardenOrders();
        wardenFindsOrders();
    }

    /** PLACE 0 (DRY 8, OFF as told) is WET in these QUARTERS alone; its REACH is 9 deep then. */
    private static GorgeDay wetIn(int off, int... quarters) {
        StringBuilder text = new StringBuilder("reach 1 100 100 0 9;place 0 8 ").append(off).append(" 0");
        for (int quarter : quarters) {
            text.append(";rain ").append(quarter).append(' ').append(quarter).append(" 1");
        }
        return Edges.opened(text.toString());
    }

    private static void roomForPeople() {
        Edges.edge(22, "PEOPLE (at most 10, numbered from 0 on)", "A PERSON: its number.");
        GorgeDay x = wetIn(0, 20);
        for (int i = 0; i < 10; i++) {
            Edges.due("PERSON " + i, x.person(0, 10 + i, 30, 0, 0, 99), i);
        }
        Edges.throwsThat("PERSON 10", Edges.ROOM, x, y -> y.person(0, 0, 0, 0, 0, 1));
        Edges.due("people", x.count(5), 10);
        Edges.due("the last one counts", x.fear(0), 10 * WHOLE);
        Edges.due("each is one of its own", x.caught(0, 9), 20);
    }

    private static void roomForCalls() {
        Edges.edge(23, "CALLS (at most 24, of one PLACE 4): of a PLACE in a QUARTER.", "A CALL: how many there are.");
        GorgeDay x = Edges.gorge("reach 1 0 0 0 0", Edges.times("place 0 0 0 0", 7));
        for (int i = 1; i <= 4; i++) {
            Edges.due("of PLACE 0", x.call(0, 5), i);
        }
        Edges.throwsThat("a 5th of PLACE 0", Edges.ROOM, x, y -> y.call(0, 6));
        Edges.due("calls", x.count(6), 4);
        for (int i = 5; i <= 24; i++) {
            Edges.due("of others", x.call(2 + i % 5, 0), i);
        }
        Edges.throwsThat("a 25th, of a PLACE without any", Edges.ROOM, x, y -> y.call(1, 0));
        Edges.due("calls", x.count(6), 24);
    }

    private static void callsPutAway() {
        Edges.edge(24, "All CALLS are put away: how many there were.");
        GorgeDay x = wetIn(0, 20);
        x.person(0, 0, 30, 50, 0, 99);
        Edges.due("none", x.calls(), 0);
        for (int i = 0; i < 4; i++) {
            x.call(0, 1);
        }
        Edges.due("four", x.calls(), 4);
        Edges.due("no more", x.calls(), 0);
        Edges.due("count", x.count(6), 0);
        Edges.due("none is heard", x.odds(0, 0), WHOLE);
        Edges.due("there is room again", x.call(0, 1), 1);
        Edges.due("one is heard", x.odds(0, 0), WHOLE / 2);
    }

    private static void caughtDue(GorgeDay x, int from, int till, int due) {
        int person = x.person(0, from, till, 0, 0, 99);
        Edges.due("FROM " + from + " TILL " + till, x.caught(0, person), due);
    }

    private static void caught() {
        Edges.edge(25,
                "CAUGHT: the first QUARTER behind FROM, and not behind TILL, in which the PLACE is WET; "
                        + "none, if there is none, or it is WET in QUARTER FROM.");
        GorgeDay x = wetIn(0, 20, 22);
        caughtDue(x, 0, 19, Edges.NONE);
        caughtDue(x, 0, 20, 20);
        caughtDue(x, 19, 20, 20);
        caughtDue(x, 19, 95, 20);
        caughtDue(x, 20, 20, Edges.NONE);
        caughtDue(x, 20, 95, Edges.NONE);
        caughtDue(x, 21, 21, Edges.NONE);
        caughtDue(x, 21, 22, 22);
        caughtDue(x, 22, 95, Edges.NONE);
        caughtDue(x, 23, 95, Edges.NONE);
        GorgeDay y = wetIn(0, 0, 95);
        caughtDue(y, 0, 95, Edges.NONE);
        caughtDue(y, 1, 95, 95);
        caughtDue(y, 94, 94, Edges.NONE);
        caughtDue(y, 94, 95, 95);
        caughtDue(y, 95, 95, Edges.NONE);
        GorgeDay z = wetIn(0, 1);
        caughtDue(z, 0, 1, 1);
        caughtDue(z, 0, 0, Edges.NONE);
    }

    /** ODDS of one (HEARS 50) who comes and wakes then and would be CAUGHT in QUARTER 20, with one CALL. */
    private static void heardDue(int off, int from, int awake, int call, boolean due) {
        GorgeDay x = wetIn(off, 20);
        x.person(0, from, 30, 50, awake, 99);
        x.call(0, call);
        Edges.due("OFF " + off + ", FROM " + from + ", AWAKE " + awake + ": a CALL in " + call + " is heard",
                x.odds(0, 0) == WHOLE / 2, due);
        Edges.due("else nothing is", x.odds(0, 0) == WHOLE, !due);
    }

    private static void fromAndAwake() {
        Edges.edge(26, "IN TIME is what is FROM and AWAKE at least");
        heardDue(0, 5, 0, 4, false);
        heardDue(0, 5, 0, 5, true);
        heardDue(0, 5, 0, 6, true);
        heardDue(0, 0, 7, 6, false);
        heardDue(0, 0, 7, 7, true);
        heardDue(0, 5, 7, 5, false);
        heardDue(0, 5, 7, 7, true);
        heardDue(0, 7, 5, 6, false);
        heardDue(0, 7, 5, 7, true);
        heardDue(0, 0, 0, 0, true);
        heardDue(0, 0, 20, 20, true);
        heardDue(0, 0, 20, 19, false);
        heardDue(0, 0, 21, 21, false);
        heardDue(0, 0, 95, 95, false);
        heardDue(0, 19, 0, 19, true);
    }

    private static void offOfPlace() {
        Edges.edge(26, "and, with OFF of the PLACE, CAUGHT at most.");
        heardDue(0, 0, 0, 20, true);
        heardDue(0, 0, 0, 21, false);
        heardDue(1, 0, 0, 19, true);
        heardDue(1, 0, 0, 20, false);
        heardDue(12, 0, 0, 8, true);
        heardDue(12, 0, 0, 9, false);
        heardDue(12, 8, 8, 8, true);
        heardDue(12, 9, 0, 9, false);
        heardDue(12, 0, 9, 9, false);
        GorgeDay early = wetIn(12, 11);
        early.person(0, 0, 30, 50, 0, 99);
        early.call(0, 0);
        Edges.due("nothing is IN TIME, if CAUGHT is below OFF", early.odds(0, 0), WHOLE);
        GorgeDay just = wetIn(12, 12);
        just.person(0, 0, 30, 50, 0, 99);
        just.call(0, 0);
        Edges.due("QUARTER 0 is, if CAUGHT is OFF", just.odds(0, 0), WHOLE / 2);
    }

    /** PLACE 0 (DRY 20) is WET in QUARTER 20 alone; the REACH rises by 9 in QUARTER 10 and by 27 in QUARTER 20. */
    private static void goesDue(int off, int from, int awake, int sees, boolean due) {
        GorgeDay x = Edges.opened("reach 1 100 100 0 9;rain 10 10 1;rain 20 20 3;place 0 20 " + off + " 0");
        x.person(0, from, 30, 0, awake, sees);
        Edges.due("OFF " + off + ", FROM " + from + ", AWAKE " + awake + ", SEES " + sees + ": goes", x.odds(0, 0) == 0, due);
        Edges.due("would be CAUGHT still", x.caught(0, 0), 20);
    }

    private static void seesTheWater() {
        Edges.edge(26,
                "One goes, if there is a QUARTER IN TIME in which RISE of the REACH is SEES at least; else "
                        + "each CALL IN TIME is heard by HEARS.");
        goesDue(10, 0, 0, 8, true);
        goesDue(10, 0, 0, 9, true);
        goesDue(10, 0, 0, 10, false);
        goesDue(11, 0, 0, 9, false);
        goesDue(10, 10, 0, 9, true);
        goesDue(10, 11, 0, 9, false);
        goesDue(10, 0, 10, 9, true);
        goesDue(10, 0, 11, 9, false);
        goesDue(0, 0, 0, 27, true);
        goesDue(0, 0, 0, 28, false);
        goesDue(1, 0, 0, 27, false);
        goesDue(0, 0, 20, 27, true);
        goesDue(0, 0, 21, 1, false);
        goesDue(10, 9, 9, 1, true);
        goesDue(12, 0, 0, 1, false);
        // RISE of QUARTER 0 is by an empty REACH: 9 in it, 9 more in QUARTER 1.
        GorgeDay x = Edges.opened("reach 1 100 100 0 9;rain 0 0 1;rain 1 1 2;place 0 9 1 0");
        x.person(0, 0, 9, 0, 0, 9);
        x.person(0, 0, 9, 0, 0, 10);
        Edges.due("RISE of QUARTER 0 is SEES", x.odds(0, 0), 0);
        Edges.due("is one less than SEES", x.odds(0, 1), WHOLE);
        GorgeDay most = Edges.opened("reach 1 100 100 0 99;rain 5 5 1;rain 9 9 2;place 0 99 0 0;rain 6 6 2;place 0 197 0 0");
        most.person(0, 0, 5, 0, 0, 99);
        most.person(0, 0, 9, 0, 0, 99);
        Edges.due("SEES 99, RISE 99", most.odds(0, 1), 0);
        Edges.due("dry", most.odds(0, 0), 0);
    }

    private static void oddsDue(int hears, int calls, long due) {
        GorgeDay x = wetIn(0, 20);
        x.person(0, 0, 30, hears, 0, 99);
        for (int i = 0; i < calls; i++) {
            x.call(0, 5);
        }
        Edges.due("HEARS " + hears + " of " + calls, x.odds(0, 0), due);
        Edges.due("FEAR", x.fear(0), due);
    }

    private static void odds() {
        Edges.edge(26,
                "ODDS of one who would be CAUGHT: 100 less HEARS, by 100, once for each CALL IN TIME, in "
                        + "hundred-millionths; 0 of others, and of one who goes.");
        oddsDue(0, 0, WHOLE);
        oddsDue(0, 4, WHOLE);
        oddsDue(100, 0, WHOLE);
        oddsDue(100, 1, 0);
        oddsDue(100, 4, 0);
        oddsDue(99, 1, 1000000);
        oddsDue(99, 3, 100);
        oddsDue(99, 4, 1);
        oddsDue(1, 4, 99L * 99 * 99 * 99);
        oddsDue(1, 3, 99L * 99 * 99 * 100);
        oddsDue(50, 2, WHOLE / 4);
        GorgeDay x = wetIn(0, 20);
        x.person(0, 0, 19, 0, 0, 99);
        x.person(0, 20, 30, 0, 0, 99);
        x.person(0, 0, 30, 0, 0, 9);
        x.person(0, 0, 30, 0, 0, 10);
        Edges.due("not CAUGHT", x.odds(0, 0), 0);
        Edges.due("WET in FROM", x.odds(0, 1), 0);
        Edges.due("goes", x.odds(0, 2), 0);
        Edges.due("sees too little", x.odds(0, 3), WHOLE);
        Edges.tape(x, "place 0 8 0 0").gorge();
        x.person(1, 0, 30, 100, 0, 99);
        x.call(0, 5);
        Edges.due("a CALL of another PLACE is not heard", x.odds(0, 4), WHOLE);
    }

    private static void fear() {
        Edges.edge(27, "FEAR of an OPENING: ODDS of all together.");
        GorgeDay x = wetIn(0, 20);
        Edges.due("without PEOPLE", x.fear(0), 0);
        for (int i = 0; i < 10; i++) {
            Edges.due("of " + i, x.fear(0), i * WHOLE);
            x.person(0, 0, 30, 100, 0, 99);
        }
        Edges.due("of ten", x.fear(0), 10 * WHOLE);
        x.call(0, 20);
        Edges.due("all hear", x.fear(0), 0);
    }

    // ---- bounds

    private static void fearBound() {
        Edges.edge(29, "2 FEAR is above the bound (1000000 each hundredth)", "FEAR (0 to 1000 hundredths; 0 at first)");
        GorgeDay x = wetIn(0, 20);
        Edges.due("no FEAR by 0", x.judge(0), 0);
        x.person(0, 0, 30, 99, 0, 99);
        for (int i = 0; i < 4; i++) {
            x.call(0, 1);
        }
        Edges.due("a hundred-millionth by 0 at first", x.judge(0), 2);
        x.bounds(1, 999, 99999);
        Edges.due("by a hundredth", x.judge(0), 0);
        x.calls();
        x.call(0, 1);
        Edges.due("FEAR 1000000 by a hundredth", x.judge(0), 0);
        x.bounds(0, 999, 99999);
        Edges.due("by none", x.judge(0), 2);
        x.bounds(1, 999, 99999);
        Edges.tape(x, "place 0 8 0 0").gorge();
        x.person(1, 0, 30, 99, 0, 99);
        for (int i = 0; i < 4; i++) {
            x.call(1, 1);
        }
        Edges.due("FEAR", x.fear(0), 1000001);
        Edges.due("1000001 by a hundredth", x.judge(0), 2);
        x.bounds(2, 999, 99999);
        Edges.due("by two", x.judge(0), 0);
        GorgeDay ten = wetIn(0, 20);
        for (int i = 0; i < 10; i++) {
            ten.person(0, 0, 30, 0, 0, 99);
        }
        ten.bounds(1000, 999, 99999);
        Edges.due("the greatest FEAR by the greatest bound", ten.judge(0), 0);
        ten.bounds(999, 999, 99999);
        Edges.due("by one less", ten.judge(0), 2);
    }

    private static void fallBound() {
        Edges.edge(29, "3 some FALL is", "FALL (0 to 999; 999 at first)");
        GorgeDay x = wetIn(0, 20);
        x.bounds(0, 9, 99999);
        Edges.due("FALL 9 by 9", x.judge(0), 0);
        x.bounds(0, 8, 99999);
        Edges.due("by 8", x.judge(0), 3);
        x.bounds(0, 0, 99999);
        Edges.due("by 0", x.judge(0), 3);
        GorgeDay rises = Edges.opened("reach 1 0 0 0 9;rain 0 95 1");
        rises.bounds(0, 0, 0);
        Edges.due("no FALL by 0", rises.judge(0), 0);
        GorgeDay last = Edges.opened("reach 1 100 100 0 9;rain 94 94 1;reach 1 0 0 0 0");
        last.bounds(0, 8, 99999);
        Edges.due("FALL in QUARTER 95", last.judge(0), 3);
        GorgeDay first = wetIn(0, 0);
        first.bounds(0, 8, 99999);
        Edges.due("FALL in QUARTER 1", first.judge(0), 3);
        GorgeDay second = Edges.opened(Edges.times("reach 1 0 0 0 0", 7) + ";reach 1 100 100 0 9;rain 5 5 1");
        second.bounds(0, 8, 99999);
        Edges.due("FALL of the 8th REACH alone", second.judge(0), 3);
        second.bounds(0, 9, 99999);
        Edges.due("FALL of none of eight", second.judge(0), 0);
        GorgeDay deep = Edges.opened("lake 1 1000 1 95;gate 999 1000;reach 1 100 100 0 0");
        deep.step(0, 0, 0, 0, 1);
        Edges.due("FALL 999 at first", deep.judge(0), 0);
        deep.step(0, 0, 0, 0, 2);
        Edges.due("FALL 1000 at first", deep.judge(0), 3);
    }

    private static void harmBound() {
        Edges.edge(29, "4 HARM is; else 0.", "HARM (0 to 99999; 99999 at first)");
        GorgeDay x = Edges.opened("reach 1 0 0 0 9;rain 0 0 1;" + Edges.times("place 0 0 0 999", 8), Edges.times("place 0 0 0 999", 4));
        Edges.due("the greatest HARM at first", x.judge(0), 0);
        x.bounds(0, 999, 11988);
        Edges.due("HARM 11988 by as much", x.judge(0), 0);
        x.bounds(0, 999, 11987);
        Edges.due("by one less", x.judge(0), 4);
        x.bounds(0, 999, 0);
        Edges.due("by 0", x.judge(0), 4);
        GorgeDay none = Edges.opened("reach 1 0 0 0 9;rain 0 0 1;place 0 0 0 0");
        none.bounds(0, 0, 0);
        Edges.due("HARM 0 by 0", none.judge(0), 0);
    }

    private static void levelAndOrder() {
        Edges.edge(29, "JUDGED: the first of these: 1 LEVEL in QUARTER BY is above GOAL");
        Edges.due("GOAL", Edges.opened("lake 10 59 5 0").judge(0), 0);
        Edges.due("one more", Edges.opened("lake 10 60 5 0").judge(0), 1);
        Edges.due("the first QUARTER, behind it", Edges.opened("lake 10 59 5 0;into 0 0 1").judge(0), 1);
        Edges.due("behind BY", Edges.opened("lake 10 59 5 0;into 1 95 9").judge(0), 0);
        Edges.due("in the last QUARTER", Edges.opened("lake 10 59 5 95;into 95 95 1").judge(0), 1);
        Edges.due("nobody lets it down", Edges.opened("lake 10 60 5 95;gate 60").judge(0), 1);
        GorgeDay x = Edges.opened("lake 10 60 5 95;gate 60;reach 1 100 100 0 9;rain 20 20 1;place 0 8 0 7");
        x.person(0, 0, 30, 0, 0, 99);
        x.bounds(0, 8, 6);
        Edges.due("all four", x.judge(0), 1);
        x.step(0, 0, 95, 95, 1);
        Edges.due("FEAR, FALL and HARM", x.judge(0), 2);
        x.bounds(100, 8, 6);
        Edges.due("FALL and HARM", x.judge(0), 3);
        x.bounds(100, 9, 6);
        Edges.due("HARM", x.judge(0), 4);
        x.bounds(100, 9, 7);
        Edges.due("nothing", x.judge(0), 0);
        x.bounds(99, 999, 6);
        Edges.due("FEAR and HARM", x.judge(0), 2);
        x.step(0, 0, 95, 95, 0);
        Edges.due("LEVEL and all", x.judge(0), 1);
    }

    // ---- whom to call

    private static void whom() {
        Edges.edge(31,
                "WHOM to call in a QUARTER: the PLACE (that has fewer than 4 CALLS) by whose CALL then FEAR "
                        + "would be the least, of several the least number; none, if FEAR would not be less.");
        GorgeDay x = wetIn(2, 20);
        Edges.due("without PEOPLE", x.whom(0, 0), Edges.NONE);
        x.person(0, 5, 30, 1, 7, 99);
        Edges.due("one ahead of AWAKE", x.whom(0, 6), Edges.NONE);
        Edges.due("AWAKE", x.whom(0, 7), 0);
        Edges.due("just in time", x.whom(0, 18), 0);
        Edges.due("one too late", x.whom(0, 19), Edges.NONE);
        for (int calls = 1; calls <= 3; calls++) {
            x.call(0, 95);
            Edges.due("with " + calls + " CALLS", x.whom(0, 7), 0);
        }
        x.call(0, 95);
        Edges.due("with 4 CALLS", x.whom(0, 7), Edges.NONE);

        GorgeDay y = Edges.opened("reach 1 100 100 0 9;rain 20 20 1", Edges.times("place 0 8 0 0", 12));
        y.person(11, 0, 30, 50, 0, 99);
        Edges.due("the last PLACE", y.whom(0, 20), 11);
        y.person(4, 0, 30, 50, 0, 99);
        Edges.due("of two the least number", y.whom(0, 20), 4);
        y.person(7, 0, 30, 51, 0, 99);
        Edges.due("the least FEAR", y.whom(0, 20), 7);
        y.person(2, 0, 30, 0, 0, 99);
        Edges.due("who hears nothing is not called", y.whom(0, 20), 7);
        y.calls();
        y.person(3, 0, 30, 100, 0, 9);
        Edges.due("who goes is not called", y.whom(0, 20), 7);
        for (int i = 0; i < 24; i++) {
            y.call(i % 6, 95);
        }
        Edges.due("by the CALLS of the PLACE, though there are 24", y.whom(0, 20), 7);
        Edges.due("no CALL is done", y.count(6), 24);
        GorgeDay heard = wetIn(0, 20);
        heard.person(0, 0, 30, 100, 0, 99);
        heard.call(0, 0);
        Edges.due("FEAR is 0 already", heard.whom(0, 0), Edges.NONE);
        Edges.due("without PLACES", Edges.opened("reach 1 0 0 0 0").whom(0, 95), Edges.NONE);
        GorgeDay ten = wetIn(0, 20);
        for (int i = 0; i < 10; i++) {
            ten.person(0, 0, 30, 0, 0, 99);
        }
        Edges.due("ten who hear nothing", ten.whom(0, 0), Edges.NONE);
    }

    // ---- a WARDEN

    /** Eight REACHES, PLACE p at REACH p (OFF 0), all WET in QUARTER 95 alone, and one PERSON (HEARS 100) at each. */
    private static GorgeDay wardens() {
        GorgeDay x = Edges.opened(Edges.times("reach 1 100 100 0 9", 8), "rain 95 95 1");
        for (int p = 0; p < 8; p++) {
            Edges.tape(x, "place " + p + " 8 0 0").gorge();
            x.person(p, 0, 95, 100, 0, 99);
        }
        return x;
    }

    private static void wardenGoes() {
        Edges.edge(32,
                "A WARDEN goes from a REACH in a QUARTER on, a PACE (0 to 9 QUARTERS) for each REACH that he "
                        + "goes up or down");
        GorgeDay x = wardens();
        Edges.due("all are CAUGHT", x.fear(0), 8 * WHOLE);
        Edges.due("down by 7 in 63 QUARTERS", x.warden(0, 0, 32, 9, 128, -1), 7 * WHOLE);
        Edges.due("in 63, one too late", x.warden(0, 0, 33, 9, 128, -1), 8 * WHOLE);
        Edges.due("up by 7 in 63 QUARTERS", x.warden(0, 7, 32, 9, 1, -1), 7 * WHOLE);
        Edges.due("in 63, one too late", x.warden(0, 7, 33, 9, 1, -1), 8 * WHOLE);
        Edges.due("PACE 0", x.warden(0, 0, 95, 0, 128, -1), 7 * WHOLE);
        Edges.due("PACE 1", x.warden(0, 0, 88, 1, 128, -1), 7 * WHOLE);
        Edges.due("PACE 1, one too late", x.warden(0, 0, 89, 1, 128, -1), 8 * WHOLE);
        Edges.due("where he is", x.warden(0, 3, 95, 9, 8, -1), 7 * WHOLE);
        Edges.due("down and up again", x.warden(0, 3, 89, 1, 1 + 64, -1), 7 * WHOLE);
        Edges.due("up by 3, then down by 6", x.warden(0, 3, 86, 1, 1 + 64, -1), 6 * WHOLE);
        Edges.due("one too late for the second", x.warden(0, 3, 87, 1, 1 + 64, -1), 7 * WHOLE);
    }

    private static void wardenCalls() {
        Edges.edge(32, "when he is there (not behind QUARTER 95; no PLACE a 5th time)");
        // WET in QUARTER 95, so that a CALL in it is IN TIME still.
        GorgeDay x = wardens();
        Edges.due("in QUARTER 95", x.warden(0, 0, 94, 1, 2, -1), 7 * WHOLE);
        Edges.due("behind it", x.warden(0, 0, 95, 1, 2, -1), 8 * WHOLE);
        Edges.due("he is told of a way though", x.warden(0, 0, 95, 1, 2, 0), 1);
        GorgeDay y = wardens();
        y.person(1, 0, 95, 50, 0, 99);
        for (int calls = 0; calls < 3; calls++) {
            y.call(1, 0);
        }
        Edges.due("three CALLS", y.fear(0), 7 * WHOLE + WHOLE / 8);
        Edges.due("a 4th time", y.warden(0, 0, 0, 0, 2, -1), 7 * WHOLE + WHOLE / 16);
        y.call(1, 0);
        Edges.due("no 5th time", y.warden(0, 0, 0, 0, 2, -1), 7 * WHOLE + WHOLE / 16);
        Edges.due("he is told of a way though", y.warden(0, 0, 0, 0, 2, 0), 1);
        Edges.due("no CALL is done", y.count(6), 4);
        GorgeDay late = wetIn(0, 20);
        late.person(0, 0, 30, 50, 0, 99);
        Edges.due("one CALL by him", late.warden(0, 0, 20, 0, 1, -1), WHOLE / 2);
        for (int calls = 0; calls < 4; calls++) {
            Edges.due("with " + calls + " that come too late", late.warden(0, 0, 20, 0, 1, -1), WHOLE / 2);
            late.call(0, 21);
        }
        Edges.due("no 5th time, though four came too late", late.warden(0, 0, 20, 0, 1, -1), WHOLE);
    }

    private static void wardenOrders() {
        Edges.edge(32,
                "(at most 6; of several orders that by which FEAR is the least, of several the first one, by "
                        + "numbers)",
                "the set has more than 6");
        GorgeDay x = wardens();
        Edges.due("six", x.warden(0, 0, 95, 0, 63, -1), 2 * WHOLE);
        Edges.due("the other six", x.warden(0, 0, 95, 0, 255 - 3, -1), 2 * WHOLE);
        Edges.refused("seven", Edges.ARGUMENT, EdgesOfPeople::twelve, y -> y.warden(0, 0, 0, 0, 127, -1));
        Edges.refused("twelve", Edges.ARGUMENT, EdgesOfPeople::twelve, y -> y.warden(0, 0, 0, 0, 4095, -1));
        Edges.refused("the highest seven", Edges.ARGUMENT, EdgesOfPeople::twelve, y -> y.warden(0, 0, 0, 0, 127 << 5, -1));
        Edges.fine("the highest six", twelve().day, y -> y.warden(0, 0, 0, 0, 63 << 6, -1));
        int[] order = {2, 1, 0};
        for (int k = 0; k < 3; k++) {
            Edges.due("from below the nearest is the first", x.warden(0, 2, 93, 1, 7, k), order[k]);
            Edges.due("of several the first by numbers", x.warden(0, 2, 0, 1, 7, k), k);
        }
        int[] six = {5, 4, 3, 2, 1, 0};
        for (int k = 0; k < 6; k++) {
            Edges.due("the last order of six", x.warden(0, 5, 90, 1, 63, k), six[k]);
        }
        Edges.due("by it all are called", x.warden(0, 5, 90, 1, 63, -1), 2 * WHOLE);

        Edges.edge(32, "or the k-th PLACE (from 0 on) of it; NONE without one.");
        Edges.due("0", x.warden(0, 0, 0, 0, 4 + 16, 0), 2);
        Edges.due("1", x.warden(0, 0, 0, 0, 4 + 16, 1), 4);
        Edges.due("2", x.warden(0, 0, 0, 0, 4 + 16, 2), Edges.NONE);
        Edges.due("5 of six", x.warden(0, 0, 0, 0, 63, 5), 5);
        Edges.due("6 of six", x.warden(0, 0, 0, 0, 63, 6), Edges.NONE);
        Edges.due("the greatest k", x.warden(0, 0, 0, 0, 63, Edges.FAR), Edges.NONE);
        Edges.due("of an empty set", x.warden(0, 0, 0, 0, 0, 0), Edges.NONE);
        Edges.due("FEAR by an empty set", x.warden(0, 0, 0, 0, 0, -1), 8 * WHOLE);

        Edges.edge(32, "bits of sets of none count for nothing.");
        Edges.due("all bits but six of PLACES", x.warden(0, 0, 95, 0, -1 - 3, -1), 2 * WHOLE);
        Edges.due("the sign's bit", x.warden(0, 0, 95, 0, Edges.LOW, -1), 8 * WHOLE);
        Edges.due("a PLACE that is none", x.warden(0, 0, 95, 0, 256, 0), Edges.NONE);
        Edges.due("one that is and one that is none", x.warden(0, 0, 95, 0, 128 + 256, 0), 7);
        Edges.due("and no more", x.warden(0, 0, 95, 0, 128 + 256, 1), Edges.NONE);
        Edges.due("12 PLACES: bits from 12 on", twelve().day.warden(0, 0, 0, 0, (-1 << 12) + 2048, 0), 11);
        Edges.due("12 PLACES: and no more", twelve().day.warden(0, 0, 0, 0, (-1 << 12) + 2048, 1), Edges.NONE);
    }

    /**
     * PLACE p stands at REACH reaches[p], is called in time from arrives[p] less slack to arrives[p], by QUARTERS from
     * 20 on, as all are WET in QUARTER 32 and OFF is what is left until then.
     */
    private static GorgeDay windows(int[] reaches, int[] arrives, int slack) {
        GorgeDay x = Edges.opened(Edges.times("reach 1 100 100 0 9", 6), "rain 32 32 1");
        for (int p = 0; p < reaches.length; p++) {
            Edges.tape(x, "place " + reaches[p] + " 8 " + (12 - arrives[p]) + " 0").gorge();
            x.person(p, 0, 95, 100, 20 + Math.max(0, arrives[p] - slack), 99);
        }
        return x;
    }

    /** When one comes to each PLACE by an order, from REACH 0 on by PACE 1. */
    private static int[] arrivals(int[] reaches, List<Integer> order) {
        int[] arrives = new int[reaches.length];
        int at = 0;
        int quarter = 0;
        for (int p : order) {
            quarter += Math.abs(reaches[p] - at);
            at = reaches[p];
            arrives[p] = quarter;
        }
        return arrives;
    }

    private static void addOrders(List<Integer> so, int of, List<List<Integer>> orders) {
        if (so.size() == of) {
            orders.add(so);
        }
        for (int p = 0; p < of; p++) {
            if (!so.contains(p)) {
                List<Integer> longer = new ArrayList<>(so);
                longer.add(p);
                addOrders(longer, of, orders);
            }
        }
    }

    private static void wardenFindsOrders() {
        Edges.edge(32, "of several orders that by which FEAR is the least, of several the first one, by numbers");
        int[][] lines = {{0, 1, 2, 3}, {2, 0, 3, 1}, {1, 1, 3, 0}, {0, 2, 2, 2, 1}};
        for (int[] reaches : lines) {
            List<List<Integer>> orders = new ArrayList<>();
            addOrders(new ArrayList<>(), reaches.length, orders);
            for (int slack : new int[] {0, 2}) {
                for (List<Integer> aim : orders) {
                    orderDue(reaches, orders, aim, slack);
                }
            }
        }
    }

    private static void orderDue(int[] reaches, List<List<Integer>> orders, List<Integer> aim, int slack) {
        int[] last = arrivals(reaches, aim);
        int most = -1;
        List<Integer> due = aim;
        for (List<Integer> order : orders) {
            int[] arrives = arrivals(reaches, order);
            int called = 0;
            for (int p = 0; p < reaches.length; p++) {
                called += arrives[p] <= last[p] && arrives[p] >= last[p] - slack ? 1 : 0;
            }
            if (called > most) {
                most = called;
                due = order;
            }
        }
        GorgeDay x = windows(reaches, last, slack);
        int set = (1 << reaches.length) - 1;
        Edges.due("FEAR by " + due, x.warden(0, 0, 20, 1, set, -1), (reaches.length - most) * WHOLE);
        for (int k = 0; k < reaches.length; k++) {
            Edges.due(k + " of " + due, x.warden(0, 0, 20, 1, set, k), due.get(k));
        }
    }

    private static Village twelve() {
        return new Village(x -> {
            Edges.tape(x, Edges.times("place 0 0 0 0", 9));
            x.gorge();
        });
    }
}
