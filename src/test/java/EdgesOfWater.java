/** Promises 13 to 21: where the WATER is, how deep, and whom it reaches. */
final class EdgesOfWater {
    private EdgesOfWater() {
    }

    static void run() {
        levels();
        letGo();
        allByWhatIsAhead();
        outOfReaches();
        downwards();
        gone();
        depths();
        greatest();
        wetPlaces();
        harms();
        downTo();
        latestOnes();
    }

    private static void lakeDue(GorgeDay x, int... water) {
        for (int q = 0; q < water.length; q++) {
            Edges.due("the lake in " + q, x.water(0, -1, q), water[q]);
        }
    }

    private static void reachDue(GorgeDay x, int reach, int... water) {
        for (int q = 0; q < water.length; q++) {
            Edges.due("REACH " + reach + " in " + q, x.water(0, reach, q), water[q]);
        }
    }

    private static GorgeDay openGate(String... texts) {
        GorgeDay x = Edges.opened(texts);
        x.step(0, 0, 0, 95, 1);
        return x;
    }

    private static void levels() {
        Edges.edge(14, "LEVEL: WATER of the lake by AREA, rounded down.");
        GorgeDay x = Edges.opened("lake 10 0 0 0;into 0 0 9;into 1 1 1;into 2 2 9;into 3 3 1");
        int[] levels = {0, 1, 1, 2, 2};
        for (int q = 0; q < levels.length; q++) {
            Edges.due("level in " + q, x.level(0, q), levels[q]);
        }
        Edges.due("level in 95", x.level(0, 95), 2);
        Edges.due("below AREA", Edges.gorge("lake 10 9 0 0").count(9), 0);
        Edges.due("as much as AREA", Edges.gorge("lake 10 10 0 0").count(9), 1);
        GorgeDay most = Edges.opened("lake 1 999999 0 0;into 0 95 9999");
        Edges.due("the greatest lake", most.level(0, 95), 999999 + 96 * 9999);
    }

    private static void letGo() {
        Edges.edge(16, "by LEVEL ahead of QUARTER 0 (if that is 0: 0), rounded down");
        GorgeDay none = openGate("lake 10 9 0 0;gate 9999;into 0 0 9999");
        Edges.due("LEVEL 0 ahead of QUARTER 0", none.flow(0, 0, false), 0);
        Edges.due("none ever, though it has risen", none.flow(0, 1, false), 0);
        Edges.due("all stays", none.water(0, -1, 95), 9 + 9999);
        GorgeDay least = openGate("lake 10 10 0 0;gate 4");
        Edges.due("LEVEL 1 ahead of QUARTER 0", least.flow(0, 0, false), 4);
        Edges.due("LEVEL 0 by then", least.flow(0, 1, false), 0);
        // 7 high at first: 3 times 7 by 7; 3 times 4 by 7; 3 times 3 by 7; 3 times 2 by 7, which is less than 1.
        lakeDue(openGate("lake 1 7 0 0;gate 3"), 4, 3, 2, 2, 2);
        GorgeDay risen = openGate("lake 1 10 0 0;gate 3;into 0 0 20");
        Edges.due("by a LEVEL above the first", risen.flow(0, 1, false), 3 * 27 / 10);

        Edges.edge(16, "by numbers, each no more than is left in the lake.");
        Edges.due("as much as there is", openGate("lake 1 10 0 0;gate 10").flow(0, 0, false), 10);
        Edges.due("one less", openGate("lake 1 10 0 0;gate 9").flow(0, 0, false), 9);
        Edges.due("one more", openGate("lake 1 10 0 0;gate 11").flow(0, 0, false), 10);
        lakeDue(openGate("lake 1 10 0 0;gate 11;into 3 3 5"), 0, 0, 0, 5, 0, 0);
        GorgeDay two = openGate("lake 1 10 0 0;gate 6;gate 5;gate 9999;gate 9999");
        two.step(0, 1, 0, 95, 1);
        Edges.due("one too much of two", two.flow(0, 0, false), 10);
        two.step(0, 3, 0, 95, 1);
        Edges.due("nothing is left for another", two.flow(0, 0, false), 10);
        two.step(0, 0, 0, 0, 0);
        two.step(0, 3, 0, 0, 0);
        Edges.due("one alone", two.flow(0, 0, false), 5);
        GorgeDay most = openGate("lake 1 1 0 0;gate 9999;into 0 0 9999;into 1 1 9999");
        most.step(0, 0, 0, 1, 0);
        Edges.due("no number goes round", most.flow(0, 2, false), 1 + 2 * 9999);
        Edges.due("all at once", most.water(0, -1, 2), 0);
        GorgeDay great = Edges.opened("lake 1 999999 0 0;into 0 95 9999;gate 9999");
        great.step(0, 0, 95, 95, 1);
        Edges.due("the greatest flow by the greatest LEVEL", great.flow(0, 95, false), (int) (9999L * (999999 + 95 * 9999) / 999999));
    }

    private static void allByWhatIsAhead() {
        Edges.edge(13, "In a QUARTER, all by what is there ahead of it");
        GorgeDay x = openGate("lake 1 10 0 0;gate 15;into 0 0 5;reach 1 100 100 0 3;reach 1 100 100 0 0;rain 0 0 1");
        Edges.due("INFLOW of the QUARTER is not let go in it", x.flow(0, 0, false), 10);
        lakeDue(x, 5, 0, 0);
        Edges.due("what comes does not go in the same QUARTER", x.water(0, 0, 0), 13);
        Edges.due("nor into the next REACH", x.water(0, 1, 0), 0);
        Edges.due("it goes in the next one", x.water(0, 1, 1), 13);

        Edges.edge(13, "from QUARTER 0 on; REACHES are empty ahead of it.");
        GorgeDay y = openGate("lake 1 10 0 0;gate 10;reach 1 100 100 0 0");
        Edges.due("the lake behind QUARTER 0", y.water(0, -1, 0), 0);
        Edges.due("the REACH behind QUARTER 0", y.water(0, 0, 0), 10);
        Edges.due("nothing is gone of an empty one", y.flow(0, 0, true), 0);
    }

    private static void outOfReaches() {
        Edges.edge(13, "(if DEPTH is TURN at least; else times SLOW), by 100, rounded down.");
        // 10 come once: all goes if it is quick, nothing if it is slow.
        reachDue(openGate("lake 1 10 0 0;gate 10;reach 1 0 100 10 0"), 0, 10, 0, 0);
        reachDue(openGate("lake 1 10 0 0;gate 10;reach 1 0 100 11 0"), 0, 10, 10, 10);
        reachDue(openGate("lake 1 10 0 0;gate 10;reach 1 0 100 9 0"), 0, 10, 0, 0);
        reachDue(openGate("lake 1 10 0 0;gate 10;reach 3 0 100 3 0"), 0, 10, 0, 0);
        reachDue(openGate("lake 1 10 0 0;gate 10;reach 3 0 100 4 0"), 0, 10, 10, 10);
        // A half of 10, of 5 (2), of 3 (1), of 2 (1), of 1 (none).
        reachDue(openGate("lake 1 10 0 0;gate 10;reach 1 50 0 999 0"), 0, 10, 5, 3, 2, 1, 1);
        reachDue(openGate("lake 1 100 0 0;gate 100;reach 1 0 99 0 0"), 0, 100, 1, 1);
        reachDue(openGate("lake 1 10 0 0;gate 10;reach 1 9 0 999 0"), 0, 10, 10, 10);
        reachDue(openGate("lake 1 10 0 0;gate 10;reach 1 10 0 999 0"), 0, 10, 9, 9);
        // 891 of rain are not TURN yet, twice 891 are; then all goes, and 891 come.
        reachDue(Edges.opened("reach 1 0 100 999 99;rain 0 95 9"), 0, 891, 1782, 891, 1782);
    }

    private static void downwards() {
        Edges.edge(13,
                "REACH 0 has what was LET GO more, each other one what is OUT of the one above it; each its "
                        + "OUT less and BROOK times RAIN more.");
        GorgeDay x = openGate("lake 1 100 0 0;gate 100;reach 1 50 0 999 0;reach 1 10 0 999 2;reach 1 0 0 999 1;rain 0 0 1;rain 2 2 9");
        x.step(0, 0, 1, 95, 0);
        reachDue(x, 0, 100, 50, 25, 13, 7);
        // 2 of rain; 50 come; 25 come, 5 go, 18 of rain; 12 come, 9 go.
        reachDue(x, 1, 2, 52, 90, 93);
        reachDue(x, 2, 1, 1, 15, 24);
        GorgeDay eight = Edges.opened(Edges.times("reach 1 100 0 999 0", 7) + ";reach 1 0 0 0 0", "lake 1 5 0 0;gate 5");
        eight.step(0, 0, 0, 0, 1);
        for (int r = 0; r < 8; r++) {
            Edges.due("the wave is in REACH " + r, eight.water(0, r, r), 5);
            Edges.due("and was not ahead of it", r == 0 ? 0 : eight.water(0, r, r - 1), 0);
        }
    }

    private static void gone() {
        Edges.edge(16, "GONE: what is OUT of the last REACH (without REACHES what was LET GO), so far.");
        GorgeDay none = openGate("lake 1 100 0 0;gate 30");
        int[] letGo = {30, 21, 14, 10};
        int sum = 0;
        for (int q = 0; q < letGo.length; q++) {
            sum += letGo[q];
            Edges.due("let go in " + q, none.flow(0, q, false), letGo[q]);
            Edges.due("gone by " + q, none.flow(0, q, true), sum);
        }
        GorgeDay one = openGate("lake 1 100 0 0;gate 100;reach 1 50 0 999 0");
        int[] gone = {0, 50, 75, 87};
        for (int q = 0; q < gone.length; q++) {
            Edges.due("gone by " + q, one.flow(0, q, true), gone[q]);
        }
        GorgeDay two = openGate("lake 1 100 0 0;gate 100;reach 1 100 0 999 0;reach 1 100 0 999 0");
        Edges.due("not behind the first of two", two.flow(0, 1, true), 0);
        Edges.due("behind the last of two", two.flow(0, 2, true), 100);
        Edges.due("all is gone in QUARTER 95", two.flow(0, 95, true), 100);
    }

    private static void depths() {
        Edges.edge(15, "DEPTH: WATER of a REACH by WIDTH, rounded down. (Of a QUARTER: behind it.)");
        GorgeDay x = Edges.opened("reach 10 0 0 0 9;reach 10 0 0 0 1;rain 0 0 1;rain 1 1 1;rain 2 2 9");
        int[] first = {0, 1, 9};
        for (int q = 0; q < first.length; q++) {
            Edges.due("REACH 0 in " + q, x.depth(0, 0, q), first[q]);
        }
        Edges.due("one below WIDTH more", x.depth(0, 1, 1), 0);
        Edges.due("as much as WIDTH more", x.depth(0, 1, 2), 1);
        Edges.due("QUARTER 95", x.depth(0, 0, 95), 9);
    }

    private static void greatest() {
        Edges.edge(17, "RISE of a REACH in a QUARTER: DEPTH less DEPTH ahead of it; FALL: the other way round.");
        // REACH 0 is as deep as it rains, times 9.
        GorgeDay x = Edges.opened("reach 1 100 100 0 9;rain 0 0 4;rain 1 1 2;rain 2 2 6;rain 3 3 2");
        Edges.due("RISE of QUARTER 0 is by an empty REACH", x.most(0, 0, false, false), 36);
        Edges.due("of two the first QUARTER", x.most(0, 0, false, true), 0);
        Edges.due("FALL", x.most(0, 0, true, false), 36);
        Edges.due("its QUARTER", x.most(0, 0, true, true), 3);

        Edges.edge(17, "The greatest RISE (falls false) or FALL of a REACH, or (when) the first QUARTER of it.");
        GorgeDay y = Edges.opened("reach 1 100 100 0 9;rain 5 5 2;rain 7 7 2;rain 94 94 1");
        Edges.due("RISE", y.most(0, 0, false, false), 18);
        Edges.due("the first of two", y.most(0, 0, false, true), 5);
        Edges.due("FALL", y.most(0, 0, true, false), 18);
        Edges.due("the first of two", y.most(0, 0, true, true), 6);
        GorgeDay last = Edges.opened("reach 1 100 100 0 9;rain 0 94 1;rain 95 95 2");
        Edges.due("RISE in 0 and in 95", last.most(0, 0, false, true), 0);
        Edges.tape(last, "rain 95 95 3").gorge();
        Edges.due("RISE in QUARTER 95", last.most(0, 0, false, true), 95);
        Edges.tape(last, "rain 95 95 0").gorge();
        Edges.due("FALL in QUARTER 95", last.most(0, 0, true, true), 95);
        Edges.due("FALL", last.most(0, 0, true, false), 9);
        GorgeDay dry = Edges.opened("reach 1 100 100 0 9;reach 1 0 0 0 1");
        Edges.due("no RISE", dry.most(0, 0, false, false), 0);
        Edges.due("in QUARTER 0", dry.most(0, 0, false, true), 0);
        Edges.due("no FALL", dry.most(0, 0, true, false), 0);
        Edges.due("in QUARTER 0", dry.most(0, 0, true, true), 0);
        Edges.tape(dry, "rain 0 95 1").gorge();
        Edges.due("it rises by 1 in all: FALL", dry.most(0, 1, true, false), -1);
        Edges.due("in QUARTER 0", dry.most(0, 1, true, true), 0);
        Edges.due("it rises in QUARTER 0 alone: FALL", dry.most(0, 0, true, false), 0);
        Edges.due("in QUARTER 1", dry.most(0, 0, true, true), 1);
    }

    private static void wetPlaces() {
        Edges.edge(18, "WET is a PLACE in QUARTERS in which DEPTH of its REACH is above DRY.");
        GorgeDay x = Edges.opened("reach 1 0 0 0 1;reach 1 0 0 0 0;rain 0 95 1;place 0 0 0 0;place 0 5 0 0;place 0 95 0 0;place 0 96 0 0;place 1 0 0 0");
        Edges.due("DRY 0, DEPTH 1", x.wet(0, 0, 0), true);
        Edges.due("DRY 5, DEPTH 5", x.wet(0, 1, 4), false);
        Edges.due("DRY 5, DEPTH 6", x.wet(0, 1, 5), true);
        Edges.due("DRY 5, DEPTH 4", x.wet(0, 1, 3), false);
        Edges.due("DRY 95, DEPTH 95", x.wet(0, 2, 94), false);
        Edges.due("DRY 95, DEPTH 96", x.wet(0, 2, 95), true);
        Edges.due("DRY 96, DEPTH 96", x.wet(0, 3, 95), false);
        Edges.due("DRY 0, DEPTH 0 of another REACH", x.wet(0, 4, 95), false);
    }

    private static void harms() {
        Edges.edge(19, "HARM of an OPENING: of all PLACES that are WET in some QUARTER, together.");
        GorgeDay x = Edges.opened("reach 1 100 100 0 9;rain 3 3 1;rain 9 9 1;place 0 8 0 1;place 0 9 0 10;place 0 0 12 100");
        Edges.due("above DRY alone, and once if it is WET twice", x.harm(0), 101);
        Edges.due("WET in QUARTER 0 alone", wetIn(0).harm(0), 7);
        Edges.due("WET in QUARTER 95 alone", wetIn(95).harm(0), 7);
        Edges.due("no PLACE", Edges.opened("reach 1 0 0 0 9;rain 0 95 9").harm(0), 0);
        Edges.due("none WET", Edges.opened("reach 1 0 0 0 9;place 0 0 0 9").harm(0), 0);
        GorgeDay all = Edges.opened("reach 1 0 0 0 9;rain 0 0 1;" + Edges.times("place 0 0 0 999", 9), Edges.times("place 0 0 0 999", 3));
        Edges.due("12 PLACES", all.harm(0), 12 * 999);
    }

    /** PLACE 0 (DRY 8, OFF 12, HARM 7) is WET in that QUARTER alone. */
    private static GorgeDay wetIn(int quarter) {
        return Edges.opened("reach 1 100 100 0 9;place 0 8 12 7;place 0 9 12 7", "rain " + quarter + " " + quarter + " 1");
    }

    private static void downTo() {
        Edges.edge(20, "DOWN: the first QUARTER in which LEVEL is GOAL at most; none.", "DOWN; NONE.");
        GorgeDay x = Edges.opened("lake 1 10 10 0;into 0 0 1;into 1 1 9999");
        Edges.due("LEVEL ahead of QUARTER 0 is not of one", x.down(0), Edges.NONE);
        GorgeDay first = Edges.opened("lake 1 10 10 0;into 1 95 1");
        Edges.due("GOAL in QUARTER 0", first.down(0), 0);
        GorgeDay y = Edges.opened("lake 10 100 9 0;gate 1");
        y.step(0, 0, 95, 95, 1);
        Edges.due("99 by 10 in QUARTER 95 is 9", y.down(0), 95);
        y.step(0, 0, 94, 95, 1);
        Edges.due("and in QUARTER 94", y.down(0), 94);
        GorgeDay z = Edges.opened("lake 10 100 8 0;gate 10;gate 2");
        z.step(0, 0, 50, 50, 1);
        Edges.due("one above GOAL", z.down(0), Edges.NONE);
        z.step(0, 1, 60, 60, 1);
        Edges.due("GOAL", z.down(0), 60);
        Edges.due("GOAL 0", Edges.opened("lake 10 9 0 0").down(0), 0);
        Edges.due("above GOAL 0", Edges.opened("lake 10 10 0 0").down(0), Edges.NONE);
        Edges.due("it rises again", Edges.opened("lake 1 1 1 0;into 1 95 9").down(0), 0);
    }

    private static void latestOnes() {
        Edges.edge(21,
                "LATEST of a PLACE: the first QUARTER in which it is WET, less OFF (also below 0); none.",
                "LATEST; 99 without.");
        Edges.due("QUARTER 0", wetIn(0).latest(0, 0), -12);
        Edges.due("QUARTER 11", wetIn(11).latest(0, 0), -1);
        Edges.due("QUARTER 12", wetIn(12).latest(0, 0), 0);
        Edges.due("QUARTER 95", wetIn(95).latest(0, 0), 83);
        Edges.due("never", wetIn(95).latest(0, 1), 99);
        GorgeDay x = Edges.opened("reach 1 100 100 0 9;place 0 8 0 7;rain 95 95 1;place 0 8 1 7");
        Edges.due("OFF 0 in QUARTER 95", x.latest(0, 0), 95);
        Edges.due("OFF 1 in QUARTER 95", x.latest(0, 1), 94);
        Edges.tape(x, "rain 40 40 1").gorge();
        Edges.due("the first of two", x.latest(0, 0), 40);
    }
}
