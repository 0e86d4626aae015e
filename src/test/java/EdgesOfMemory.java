/** Promises 41 to 48: the LOG, what is NEAR, PEOPLE by draws, THE IMAGE, counts, and how long an object is used. */
final class EdgesOfMemory {
    private EdgesOfMemory() {
    }

    static void run() {
        roomForLog();
        like();
        likest();
        near();
        nearest();
        draws();
        drawsGoRound();
        whoDraws();
        imageOfAll();
        imageOnce();
        noImage();
        counts();
        countOfNone();
        calls512();
    }

    /** PLACE 0 (DRY 8) is WET in these QUARTERS alone, PLACE 1 (DRY 9) in none. */
    private static GorgeDay wetIn(int... quarters) {
        StringBuilder text = new StringBuilder("reach 1 100 100 0 9;place 0 8 0 0;place 0 9 0 0");
        for (int quarter : quarters) {
            text.append(";rain ").append(quarter).append(' ').append(quarter).append(" 1");
        }
        return Edges.opened(text.toString());
    }

    private static void roomForLog() {
        Edges.edge(41,
                "LOG (at most 16): a PLACE in a QUARTER was WET, or not.",
                "LOG: how many there are. UnsupportedOperationException: there are 16.");
        GorgeDay x = wetIn(20);
        for (int i = 1; i <= 16; i++) {
            Edges.due("log " + i, x.log(0, 20, true), i);
        }
        Edges.throwsThat("log 17", Edges.ROOM, x, y -> y.log(0, 20, true));
        Edges.due("logs", x.count(8), 16);
        Edges.due("all count, the last too", x.like(0), 16);
    }

    private static void like() {
        Edges.edge(42, "LIKE: how many of these are so by an OPENING.");
        GorgeDay x = wetIn(0, 95);
        Edges.due("of none", x.like(0), 0);
        int[][] logs = {{0, 0, 1, 1}, {0, 95, 1, 1}, {0, 1, 0, 1}, {0, 94, 0, 1}, {1, 0, 0, 1}, {0, 0, 0, 0}, {0, 1, 1, 0}, {1, 95, 1, 0}};
        int like = 0;
        for (int[] log : logs) {
            x.log(log[0], log[1], log[2] == 1);
            like += log[3];
            Edges.due("PLACE " + log[0] + " in " + log[1] + " WET " + log[2], x.like(0), like);
        }
    }

    private static GorgeDay threeFlows() {
        GorgeDay x = Edges.opened("lake 1 9999 0 0;gate 10;reach 1 100 100 0 0;place 0 5 0 0");
        x.step(0, 0, 5, 5, 1);
        x.open();
        x.step(1, 0, 6, 6, 1);
        x.copy(1);
        return x;
    }

    private static void likest() {
        Edges.edge(43,
                "LIKEST: the OPENING by which most are, of several the least number; none without OPENINGS.",
                "LIKEST; NONE.");
        Edges.due("without OPENINGS", new GorgeDay().likest(), Edges.NONE);
        GorgeDay logged = Edges.gorge("reach 1 0 0 0 0;place 0 0 0 0");
        logged.log(0, 0, false);
        Edges.due("without OPENINGS, with a LOG", logged.likest(), Edges.NONE);
        GorgeDay x = threeFlows();
        Edges.due("without a LOG", x.likest(), 0);
        x.log(0, 6, true);
        Edges.due("of two the least number", x.likest(), 1);
        x.log(0, 5, true);
        Edges.due("of three", x.likest(), 0);
        x.step(2, 0, 5, 5, 1);
        Edges.due("the last one", x.likest(), 2);
        GorgeDay none = threeFlows();
        none.log(0, 0, true);
        Edges.due("by none any", none.likest(), 0);
        for (int i = 3; i < 6; i++) {
            none.open();
        }
        none.step(5, 0, 0, 0, 1);
        Edges.due("the 6th", none.likest(), 5);
    }

    private static void nearDue(GorgeDay x, int from, int till, int due) {
        int person = x.person(0, from, till, 0, 0, 1);
        Edges.due("FROM " + from + " TILL " + till, x.near(0, person), due);
    }

    private static void near() {
        Edges.edge(44,
                "the least between a QUARTER FROM to TILL and one in which the PLACE is WET (0: there); none.",
                "NEAR; 99 without.");
        GorgeDay x = wetIn(20, 40);
        nearDue(x, 0, 19, 1);
        nearDue(x, 0, 20, 0);
        nearDue(x, 20, 20, 0);
        nearDue(x, 20, 95, 0);
        nearDue(x, 21, 21, 1);
        nearDue(x, 21, 39, 1);
        nearDue(x, 22, 37, 2);
        nearDue(x, 30, 30, 10);
        nearDue(x, 41, 95, 1);
        nearDue(x, 95, 95, 55);
    }

    private static void nearest() {
        Edges.edge(44, "NEAR: how many QUARTERS one was from it");
        GorgeDay first = wetIn(0);
        nearDue(first, 0, 0, 0);
        nearDue(first, 1, 95, 1);
        nearDue(first, 95, 95, 95);
        GorgeDay last = wetIn(95);
        nearDue(last, 0, 0, 95);
        nearDue(last, 0, 94, 1);
        nearDue(last, 0, 95, 0);
        GorgeDay never = wetIn();
        nearDue(never, 0, 95, 99);
        nearDue(never, 95, 95, 99);
        last.person(1, 0, 95, 0, 0, 1);
        Edges.due("another PLACE is never WET", last.near(0, 3), 99);
    }

    // ---- draws

    private static int draw(int seed) {
        return (int) (((seed * 1103515245L + 12345) >> 16 & 32767) % 100);
    }

    private static int played(int seed, int hears, int calls) {
        GorgeDay x = wetIn(20);
        x.person(0, 0, 30, hears, 0, 99);
        for (int i = 0; i < calls; i++) {
            x.call(0, 5);
        }
        return x.play(0, seed);
    }

    private static void draws() {
        Edges.edge(45, "bits 16 to 30, modulo 100.", "heard, if it is below HEARS.");
        // 1103515245 and 12345 are 1103527590, by 65536 that is 16838: the DRAW of SEED 1 is 38.
        Edges.due("SEED 1: 38 is below 39", played(1, 39, 1), 0);
        Edges.due("SEED 1: 38 is not below 38", played(1, 38, 1), 1);
        // 12345 by 65536 is 0.
        Edges.due("SEED 0: 0 is below 1", played(0, 1, 1), 0);
        Edges.due("SEED 0: 0 is not below 0", played(0, 0, 1), 1);
        for (int seed = 0; seed < 200; seed++) {
            Edges.due("SEED " + seed + ", HEARS as the DRAW", played(seed, draw(seed), 1), 1);
            Edges.due("SEED " + seed + ", HEARS one more", played(seed, draw(seed) + 1, 1), 0);
        }
        Edges.due("HEARS 100 by any", played(12345678, 100, 1), 0);
        Edges.due("HEARS 0 by none", played(12345678, 0, 4), 1);
        Edges.due("without CALLS", played(1, 100, 0), 1);
    }

    private static void drawsGoRound() {
        Edges.edge(45, "DRAW: SEED is 1103515245 times SEED and 12345, as an int that goes round");
        int[] seeds = {-1, Edges.FAR, Edges.LOW, 1 << 30, -12345, 0x7fff0000, 987654321};
        for (int seed : seeds) {
            Edges.due("SEED " + seed, played(seed, draw(seed), 1), 1);
            Edges.due("SEED " + seed + ", HEARS one more", played(seed, draw(seed) + 1, 1), 0);
            int second = seed * 1103515245 + 12345;
            GorgeDay x = wetIn(20);
            x.person(0, 0, 30, 0, 0, 99);
            x.person(0, 0, 30, draw(second), 0, 99);
            x.person(0, 0, 30, draw(second * 1103515245 + 12345) + 1, 0, 99);
            x.call(0, 5);
            Edges.due("SEED goes on from SEED " + seed, x.play(0, seed), 3);
        }
    }

    private static void whoDraws() {
        Edges.edge(45,
                "PEOPLE by numbers who would be CAUGHT, and do not go: for each CALL IN TIME, as they were "
                        + "told, a DRAW (also behind one that was heard)",
                "Who hears none stands in it: as bits.");
        GorgeDay x = wetIn(20);
        x.person(0, 20, 30, 100, 0, 99);
        x.person(0, 0, 19, 100, 0, 99);
        x.person(0, 0, 30, 100, 0, 9);
        x.person(1, 0, 30, 100, 0, 99);
        x.person(0, 0, 30, 39, 0, 99);
        Edges.due("without CALLS one alone", x.play(0, 1), 16);
        x.call(0, 21);
        x.call(1, 5);
        Edges.due("no CALL IN TIME", x.play(0, 1), 16);
        x.call(0, 20);
        Edges.due("the first DRAW is of the one who would be CAUGHT", x.play(0, 1), 0);
        Edges.due("nobody stands in it by another OPENING", x.play(x.open(), 1), 0);
        // The first hears all: the second's DRAW is the third one, behind two CALLS.
        int third = 1;
        for (int i = 0; i < 2; i++) {
            third = third * 1103515245 + 12345;
        }
        GorgeDay y = wetIn(20);
        y.person(0, 0, 30, 100, 0, 99);
        y.person(0, 0, 30, draw(third), 0, 99);
        y.person(0, 0, 30, draw(third) + 1, 6, 99);
        y.call(0, 5);
        y.call(0, 4);
        int fourth = third * 1103515245 + 12345;
        Edges.due("a DRAW also behind one that was heard", y.play(0, 1) & 2, draw(fourth) < draw(third) ? 0 : 2);
        Edges.due("who sleeps does not draw, and hears none", y.play(0, 1) & 4, 4);
        GorgeDay ten = wetIn(20);
        for (int i = 0; i < 10; i++) {
            ten.person(0, 0, 30, 0, 0, 99);
        }
        Edges.due("ten bits", ten.play(0, 1), 1023);
    }

    // ---- THE IMAGE

    private static void imageOfAll() {
        Edges.edge(46,
                "THE IMAGE (one) of all may be kept, and gone back to (but for the TAPE, fault() and THE "
                        + "IMAGE itself).");
        Edges.unchanged("kept again", Village::new, x -> {
            x.back();
            x.step(1, 1, 60, 60, 1);
        });
        Edges.unchanged("all is gone back to", EdgesOfMemory::kept, x -> {
            changeAll(x);
            x.back();
        });
        Edges.unchanged("and again", EdgesOfMemory::kept, x -> {
            x.back();
            changeAll(x);
            x.back();
        });
        GorgeDay y = new GorgeDay();
        Edges.throwsThat("a wrong text", Edges.ARGUMENT, Edges.tape(y, "gate x"), GorgeDay::gorge);
        Edges.tape(y, "gate 1");
        y.image();
        Edges.throwsThat("another wrong one", Edges.ARGUMENT, Edges.tape(y, "gate 1 x"), GorgeDay::gorge);
        Edges.tape(y, "gate 7;gate 8");
        Edges.due("back", y.back(), true);
        Edges.due("fault() stays", y.fault(), 7);
        Edges.due("the TAPE stays", y.gorge(), 1);
        Edges.due("with all of it", y.count(1), 2);
        Edges.due("THE IMAGE stays", y.back(), true);
        Edges.due("and is gone back to", y.count(0), 0);
        Edges.due("ever again", y.back(), true);
    }

    /** A village that is just as its image. */
    private static Village kept() {
        return Village.withoutTape(GorgeDay::image);
    }

    private static void changeAll(GorgeDay x) {
        Edges.tape(x, "lake 7 7 7 7;into 0 95 7;gate 7;reach 7 7 7 7 7;place 0 7 7 7;rain 0 95 7;price 0 95 7").gorge();
        x.step(0, 0, 0, 95, 2);
        x.step(1, 1, 0, 95, 2);
        x.open();
        x.person(0, 0, 95, 7, 7, 7);
        x.calls();
        x.call(0, 7);
        x.bounds(7, 7, 7);
        x.turbine(7);
        Edges.rule(x, "open 0 1");
        x.log(0, 7, true);
    }

    private static void imageOnce() {
        Edges.edge(46, "THE IMAGE is kept.", "THE IMAGE (one)");
        GorgeDay x = new GorgeDay();
        x.image();
        x.turbine(1);
        x.image();
        x.turbine(2);
        Edges.due("back", x.back(), true);
        Edges.due("the later one", x.count(11), 1);
        Edges.due("back again", x.back(), true);
        Edges.due("not the earlier one", x.count(11), 1);
        GorgeDay y = Edges.gorge("gate 1");
        Edges.rule(y, "open 0 1");
        y.image();
        Edges.rule(y, "open 0 2");
        y.back();
        Edges.rule(y, "open 0 3");
        Edges.due("another RULE in its place", y.stepAt(y.follow(1), 0, 0), 3);
        Edges.due("the one that was kept", y.stepAt(y.follow(0), 0, 0), 1);
    }

    private static void noImage() {
        Edges.edge(47, "One goes back to THE IMAGE: true; false, and nothing happens, if none was kept.");
        GorgeDay x = Edges.tape(new GorgeDay(), "gate 1");
        Edges.due("none was kept", x.back(), false);
        Edges.due("the TAPE is as it was", x.gorge(), 1);
        x.open();
        x.turbine(5);
        Edges.due("none was kept still", x.back(), false);
        Edges.due("texts", x.count(0), 1);
        Edges.due("gates", x.count(1), 1);
        Edges.due("openings", x.count(4), 1);
        Edges.due("turbine", x.count(11), 5);
        x.image();
        Edges.due("now one was", x.back(), true);
        Edges.due("texts", x.count(0), 1);
        GorgeDay empty = new GorgeDay();
        empty.image();
        empty.turbine(5);
        Edges.due("THE IMAGE of a new object", empty.back(), true);
        Edges.due("is gone back to", empty.count(11), 0);
    }

    private static void counts() {
        Edges.edge(48,
                "0 texts of THE GORGE, 1 GATES, 2 REACHES, 3 PLACES, 4 OPENINGS, 5 PEOPLE, 6 CALLS, 7 RULES, "
                        + "8 LOG, 9 LEVEL at first, 10 INFLOW of all QUARTERS, 11 TURBINE.");
        GorgeDay x = full();
        int[] most = {12, 4, 8, 12, 6, 10, 24, 4, 16, 999999, 96 * 9999, 9999};
        for (int what = 0; what < most.length; what++) {
            Edges.due("the most of " + what, x.count(what), most[what]);
            Edges.due("none of " + what, new GorgeDay().count(what), 0);
        }
        GorgeDay y = Edges.gorge("lake 10 19 0 0;into 0 95 1");
        Edges.due("LEVEL at first is rounded down", y.count(9), 1);
        Edges.due("INFLOW of all QUARTERS", y.count(10), 96);
        Edges.tape(y, "into 0 0 3;into 95 95 5").gorge();
        Edges.due("of the first and the last, too", y.count(10), 102);
    }

    /** All that may be full. */
    private static GorgeDay full() {
        GorgeDay x = Edges.gorge("lake 1 999999 9999 95;into 0 95 9999;gate 1;gate 1;gate 1;gate 1",
                Edges.times("reach 1 0 0 0 0", 8), Edges.times("place 7 0 0 0", 12));
        while (x.count(0) < 12) {
            x.gorge();
        }
        for (int i = 0; i < 24; i++) {
            x.call(i % 12, i);
            if (i < 16) {
                x.log(i % 12, i, true);
            }
            if (i < 10) {
                x.person(i, i, 95, i, i, 1 + i);
            }
            if (i < 6) {
                x.open();
            }
            if (i < 4) {
                Edges.rule(x, "shut 0");
            }
        }
        x.turbine(9999);
        return x;
    }

    private static void countOfNone() {
        Edges.edge(48, "NONE for another what.");
        GorgeDay x = full();
        Edges.due("-1", x.count(-1), Edges.NONE);
        Edges.due("12", x.count(12), Edges.NONE);
        Edges.due("the least", x.count(Edges.LOW), Edges.NONE);
        Edges.due("the greatest", x.count(Edges.FAR), Edges.NONE);
    }

    private static void calls512() {
        Edges.edge(48, "An object is used for at most 512 calls after it has been made");
        GorgeDay x = new GorgeDay();
        for (int call = 1; call <= 511; call++) {
            x.turbine(call);
        }
        Edges.due("the 512th call", x.count(11), 511);
        GorgeDay y = Edges.opened("lake 1 999 0 95;gate 9;reach 1 50 50 0 1;place 0 5 1 1");
        y.person(0, 0, 95, 50, 0, 99);
        for (int call = 0; call < 480; call++) {
            y.step(0, 0, call % 96, 95, call % 7);
        }
        Edges.due("a late call", y.stepAt(0, 0, 95), 479 % 7);
        Edges.due("another one", y.best(0, true), 1);
    }
}
