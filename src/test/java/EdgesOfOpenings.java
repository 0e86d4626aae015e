/** Promises 7 to 12: OPENINGS, and how GATES are moved by them. */
final class EdgesOfOpenings {
    private EdgesOfOpenings() {
    }

    static void run() {
        room();
        shutAtFirst();
        lastStep();
        copies();
        steps();
        slowly();
        waves();
        asTold();
        waterAfterMoves();
    }

    /** The STEPS of a GATE from a QUARTER on must be these. */
    private static void stepsDue(GorgeDay x, int gate, int from, int... steps) {
        for (int i = 0; i < steps.length; i++) {
            Edges.due("GATE " + gate + " in " + (from + i), x.stepAt(0, gate, from + i), steps[i]);
        }
    }

    private static void room() {
        Edges.edge(7,
                "OPENINGS (at most 6, numbered from 0 on)",
                "An OPENING: its number. UnsupportedOperationException: there are 6.");
        GorgeDay x = Edges.gorge("gate 1");
        for (int i = 0; i < 6; i++) {
            Edges.due("OPENING " + i, x.open(), i);
        }
        Edges.throwsThat("OPENING 6", Edges.ROOM, x, GorgeDay::open);
        Edges.due("openings", x.count(4), 6);
        Edges.fine("the last one", x, y -> y.step(5, 0, 0, 95, 1));
        Edges.due("it is one of its own", x.stepAt(4, 0, 0), 0);

        Edges.edge(8, "An OPENING like another one: its number. UnsupportedOperationException: there are 6.");
        GorgeDay y = Edges.opened("gate 1");
        for (int i = 1; i < 6; i++) {
            Edges.due("OPENING " + i, y.copy(i - 1), i);
        }
        Edges.throwsThat("OPENING 6", Edges.ROOM, y, z -> z.copy(0));
        Edges.due("openings", y.count(4), 6);

        Edges.edge(39, "FOLLOWED: the OPENING's number. UnsupportedOperationException: there are 6.");
        GorgeDay z = Edges.gorge("gate 1");
        Edges.rule(z, "open 0 1");
        for (int i = 0; i < 6; i++) {
            Edges.due("OPENING " + i, z.follow(0), i);
        }
        Edges.throwsThat("OPENING 6", Edges.ROOM, z, w -> w.follow(0));
        Edges.due("openings", z.count(4), 6);
    }

    private static void shutAtFirst() {
        Edges.edge(7, "of each GATE in each QUARTER a STEP (0 at first; of GATES told later, too");
        GorgeDay x = Edges.opened("gate 1;gate 2;gate 3");
        x.step(0, 2, 0, 95, 1);
        Edges.tape(x, "gate 4").gorge();
        for (int quarter : new int[] {0, 1, 94, 95}) {
            Edges.due("the first GATE in " + quarter, x.stepAt(0, 0, quarter), 0);
            Edges.due("the GATE told later in " + quarter, x.stepAt(0, 3, quarter), 0);
        }
        Edges.due("OPENING 1", x.open(), 1);
        Edges.due("a new one behind one that is open", x.stepAt(1, 2, 0), 0);
        x.image();
        x.open();
        x.step(2, 0, 0, 95, 1);
        x.back();
        Edges.due("OPENING 2 again", x.open(), 2);
        Edges.due("a new one where an older one was", x.stepAt(2, 0, 0), 0);
    }

    private static void lastStep() {
        Edges.edge(16, "a STEP that a GATE does not have is its last");
        GorgeDay x = Edges.opened("lake 1 999999 0 0;gate 10 20;gate 7;gate 1 2 3 4 5 6");
        int[] first = {0, 10, 20, 20, 20, 20, 20};
        int[] second = {0, 7, 7, 7, 7, 7, 7};
        for (int step = 0; step <= 6; step++) {
            x.step(0, 0, 0, 0, step);
            Edges.due("GATE 0 by STEP " + step, x.flow(0, 0, false), first[step]);
            x.step(0, 0, 0, 0, 0);
            x.step(0, 1, 0, 0, step);
            Edges.due("GATE 1 by STEP " + step, x.flow(0, 0, false), second[step]);
            x.step(0, 1, 0, 0, 0);
            x.step(0, 2, 0, 0, step);
            Edges.due("GATE 2, which has all, by STEP " + step, x.flow(0, 0, false), step);
            x.step(0, 2, 0, 0, 0);
        }
    }

    private static void copies() {
        Edges.edge(8, "An OPENING like another one");
        GorgeDay x = Edges.opened("gate 1;gate 2;gate 3;gate 4");
        x.step(0, 0, 0, 0, 6);
        x.step(0, 3, 95, 95, 5);
        Edges.due("copy", x.copy(0), 1);
        Edges.due("the first STEP", x.stepAt(1, 0, 0), 6);
        Edges.due("the last STEP", x.stepAt(1, 3, 95), 5);
        Edges.due("another one", x.stepAt(1, 3, 94), 0);
        x.step(1, 0, 0, 0, 1);
        x.step(0, 3, 95, 95, 2);
        Edges.due("the first stays", x.stepAt(0, 0, 0), 6);
        Edges.due("the copy stays", x.stepAt(1, 3, 95), 5);
    }

    private static void steps() {
        Edges.edge(9, "A STEP of a GATE from a QUARTER to another one.");
        GorgeDay x = Edges.opened("gate 1;gate 1 2 3 4 5 6;gate 1");
        x.step(0, 1, 10, 12, 6);
        stepsDue(x, 1, 9, 0, 6, 6, 6, 0);
        x.step(0, 1, 11, 11, 0);
        stepsDue(x, 1, 9, 0, 6, 0, 6, 0);
        x.step(0, 1, 0, 0, 3);
        stepsDue(x, 1, 0, 3, 0);
        x.step(0, 1, 95, 95, 4);
        stepsDue(x, 1, 94, 0, 4);
        x.step(0, 1, 0, 95, 2);
        stepsDue(x, 1, 0, 2, 2);
        stepsDue(x, 1, 94, 2, 2);
        stepsDue(x, 0, 0, 0, 0);
        stepsDue(x, 0, 95, 0);
        stepsDue(x, 2, 0, 0, 0);
    }

    private static void slowly() {
        Edges.edge(10, "(the first one in that QUARTER; from the STEP in the QUARTER ahead, 0 in QUARTER 0)");
        GorgeDay x = Edges.opened("gate 1 2 3 4 5 6");
        x.slow(0, 0, 10, 3, 2);
        stepsDue(x, 0, 8, 0, 0, 1, 1, 2, 2, 3, 3);
        x.step(0, 0, 0, 95, 5);
        x.slow(0, 0, 0, 2, 1);
        stepsDue(x, 0, 0, 1, 2, 2, 2);
        x.step(0, 0, 0, 95, 5);
        x.slow(0, 0, 1, 2, 1);
        stepsDue(x, 0, 0, 5, 4, 3, 2, 2);
        x.slow(0, 0, 95, 6, 1);
        stepsDue(x, 0, 93, 2, 2, 3);

        Edges.edge(10, "From a QUARTER on one STEP nearer to n each so many QUARTERS", "then n to the end.");
        GorgeDay y = Edges.opened("gate 1 2 3 4 5 6;gate 1");
        y.slow(0, 0, 0, 6, 1);
        stepsDue(y, 0, 0, 1, 2, 3, 4, 5, 6, 6);
        stepsDue(y, 0, 95, 6);
        y.slow(0, 0, 20, 0, 1);
        stepsDue(y, 0, 19, 6, 5, 4, 3, 2, 1, 0, 0);
        stepsDue(y, 0, 95, 0);
        y.step(0, 0, 40, 60, 6);
        y.slow(0, 0, 41, 6, 5);
        stepsDue(y, 0, 59, 6, 6, 6);
        stepsDue(y, 0, 95, 6);
        stepsDue(y, 1, 0, 0);
        stepsDue(y, 1, 95, 0);

        Edges.edge(10, "or each is not 1 to 96.");
        GorgeDay z = Edges.opened("gate 1 2 3 4 5 6");
        z.slow(0, 0, 0, 6, 96);
        stepsDue(z, 0, 0, 1, 1);
        stepsDue(z, 0, 95, 1);
        z.slow(0, 0, 0, 6, 95);
        stepsDue(z, 0, 94, 1, 2);
    }

    private static void waves() {
        Edges.edge(11,
                "From a QUARTER on n for so many QUARTERS, then 0 for so many (as far as there are; behind "
                        + "that all as it was).");
        GorgeDay x = Edges.opened("gate 1 2 3 4 5 6;gate 1");
        x.step(0, 0, 0, 95, 1);
        x.pulse(0, 0, 10, 6, 1, 0);
        stepsDue(x, 0, 9, 1, 6, 1, 1);
        x.pulse(0, 0, 20, 5, 2, 3);
        stepsDue(x, 0, 19, 1, 5, 5, 0, 0, 0, 1, 1);
        x.pulse(0, 0, 94, 4, 1, 96);
        stepsDue(x, 0, 93, 1, 4, 0);
        x.pulse(0, 0, 95, 3, 96, 96);
        stepsDue(x, 0, 93, 1, 4, 3);
        x.pulse(0, 0, 0, 2, 1, 1);
        stepsDue(x, 0, 0, 2, 0, 1, 1);
        x.pulse(0, 0, 30, 0, 2, 0);
        stepsDue(x, 0, 29, 1, 0, 0, 1);
        stepsDue(x, 1, 0, 0);
        stepsDue(x, 1, 95, 0);
        x.pulse(0, 0, 0, 2, 96, 96);
        stepsDue(x, 0, 0, 2, 2);
        stepsDue(x, 0, 94, 2, 2);
        x.pulse(0, 0, 0, 3, 1, 96);
        stepsDue(x, 0, 0, 3, 0);
        stepsDue(x, 0, 94, 0, 0);
        x.step(0, 0, 0, 95, 1);
        x.pulse(0, 0, 0, 3, 1, 94);
        stepsDue(x, 0, 0, 3, 0);
        stepsDue(x, 0, 94, 0, 1);
    }

    private static void waterAfterMoves() {
        Edges.edge(13, "in a QUARTER: of a REACH, or (NONE) of the lake.", "of each GATE in each QUARTER a STEP");
        GorgeDay x = Edges.opened("lake 1 1000 0 0;gate 10 20");
        Edges.due("shut", x.water(0, -1, 0), 1000);
        x.step(0, 0, 0, 0, 1);
        Edges.due("behind a STEP", x.water(0, -1, 0), 990);
        x.slow(0, 0, 0, 0, 1);
        Edges.due("behind a slow way", x.water(0, -1, 0), 1000);
        x.pulse(0, 0, 0, 2, 1, 0);
        Edges.due("behind a wave", x.water(0, -1, 0), 980);
        x.image();
        x.step(0, 0, 0, 0, 1);
        Edges.due("behind another STEP", x.water(0, -1, 0), 990);
        x.back();
        Edges.due("back again", x.water(0, -1, 0), 980);
        Edges.tape(x, "lake 1 500 0 0").gorge();
        Edges.due("behind a text", x.water(0, -1, 0), 480);
        x.copy(0);
        x.open();
        Edges.due("of a copy", x.water(1, -1, 0), 480);
        Edges.due("of a new one", x.water(2, -1, 0), 500);
        Edges.due("of the first", x.water(0, -1, 0), 480);
    }

    private static void asTold() {
        Edges.edge(12, "STEP of a GATE in a QUARTER, as it is told.");
        GorgeDay x = Edges.opened("gate 10 20");
        for (int step = 0; step <= 6; step++) {
            x.step(0, 0, 0, 0, step);
            stepsDue(x, 0, 0, step, 0);
            x.step(0, 0, 95, 95, step);
            stepsDue(x, 0, 94, 0, step);
        }
    }
}
