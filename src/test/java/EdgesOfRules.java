/** Promises 39 and 40: how a RULE is FOLLOWED, QUARTER by QUARTER. */
final class EdgesOfRules {
    private EdgesOfRules() {
    }

    static void run() {
        firstLine();
        quarterAhead();
        inQuarterZero();
        behindTheQuarterAhead();
        ofNone();
        comparisons();
        joined();
        keeps();
    }

    private static void stepsDue(GorgeDay x, int opening, int gate, int from, int... steps) {
        for (int i = 0; i < steps.length; i++) {
            Edges.due("GATE " + gate + " in " + (from + i), x.stepAt(opening, gate, from + i), steps[i]);
        }
    }

    private static int followed(GorgeDay x, String rule) {
        return x.follow(Edges.rule(x, rule));
    }

    /** Whether a condition holds in a QUARTER; else the GATE is shut in it. */
    private static boolean holds(GorgeDay x, String condition, int quarter) {
        x.image();
        int step = x.stepAt(followed(x, "open 0 1 if " + condition + ";shut 0"), 0, quarter);
        x.back();
        return step == 1;
    }

    private static void holdsDue(GorgeDay x, String condition, int quarter, boolean due) {
        Edges.due(condition + " in " + quarter, holds(x, condition, quarter), due);
    }

    private static void firstLine() {
        Edges.edge(39, "the STEP that the first LINE of this GATE that holds says (shut: 0)");
        GorgeDay x = Edges.gorge("gate 1;gate 1;gate 1;gate 1");
        stepsDue(x, followed(x, "open 0 5 if 1<1;open 0 4;open 0 3"), 0, 0, 4, 4);
        stepsDue(x, followed(x, "shut 0 if quarter>1;open 0 4"), 0, 0, 4, 4, 0, 0);
        stepsDue(x, followed(x, "open 1 5;open 0 6;shut 0"), 0, 0, 6, 6);
        int all = followed(x, "open 3 1;open 2 2;open 1 3;open 0 4");
        for (int gate = 0; gate < 4; gate++) {
            stepsDue(x, all, gate, 0, 4 - gate);
            stepsDue(x, all, gate, 95, 4 - gate);
        }
    }

    private static void quarterAhead() {
        Edges.edge(39, "without one that of the QUARTER ahead (0 in QUARTER 0).");
        GorgeDay x = Edges.gorge("gate 1;gate 1");
        int one = followed(x, "open 0 3 if quarter<1;shut 0 if quarter>93;open 1 2 if quarter>94");
        stepsDue(x, one, 0, 0, 3, 3, 3);
        stepsDue(x, one, 0, 92, 3, 3, 0, 0);
        stepsDue(x, one, 1, 0, 0, 0);
        stepsDue(x, one, 1, 93, 0, 0, 2);
        stepsDue(x, followed(x, "open 0 3 if quarter>0"), 0, 0, 0, 3, 3);
        stepsDue(x, followed(x, ""), 0, 0, 0, 0);
        stepsDue(x, followed(x, "open 1 1"), 0, 0, 0, 0);
    }

    private static GorgeDay valley() {
        return Edges.gorge("lake 10 1000 50 10;gate 100;reach 10 50 50 0 0;place 0 4 0 0;rain 0 0 4;rain 7 7 5");
    }

    private static void inQuarterZero() {
        Edges.edge(39, "(in QUARTER 0: LEVEL at first, 0, no)", "the STEP in the QUARTER ahead (0 in QUARTER 0)");
        GorgeDay x = valley();
        holdsDue(x, "level>99", 0, true);
        holdsDue(x, "level>100", 0, false);
        holdsDue(x, "depth 0>0", 0, false);
        holdsDue(x, "depth 0<1", 0, true);
        holdsDue(x, "wet 0", 0, false);
        holdsDue(x, "not wet 0", 0, true);
        holdsDue(x, "gate 0>0", 0, false);
        holdsDue(x, "gate 0<1", 0, true);
        holdsDue(x, "gate 0+1>0", 0, true);
        holdsDue(x, "depth 0+1>0", 0, true);
        holdsDue(x, "quarter>0", 0, false);
        holdsDue(x, "quarter<1", 0, true);
        holdsDue(x, "rain>3", 0, true);
        holdsDue(x, "rain>4", 0, false);
        GorgeDay dry = Edges.gorge("reach 1 0 0 0 0;place 0 0 0 0;gate 1");
        holdsDue(dry, "wet 0", 0, false);
        holdsDue(dry, "level>0", 0, false);
        GorgeDay first = Edges.gorge("lake 1 5 0 0;into 0 0 9;gate 1");
        holdsDue(first, "level>5", 0, false);
        holdsDue(first, "level>4", 0, true);
        holdsDue(first, "level>5", 1, true);
    }

    private static void behindTheQuarterAhead() {
        Edges.edge(39, "level, depth, wet: as behind the QUARTER ahead", "quarter, rain: of this one");
        GorgeDay x = valley();
        // In QUARTER 0 100 are let go: LEVEL 90, DEPTH 10 behind it.
        holdsDue(x, "quarter<1 or level<91", 1, true);
        holdsDue(x, "quarter<1 or level<90", 1, false);
        holdsDue(x, "quarter<1 or depth 0>9", 1, true);
        holdsDue(x, "quarter<1 or depth 0>10", 1, false);
        holdsDue(x, "quarter<1 or wet 0", 1, true);
        holdsDue(x, "quarter<1 or gate 0>0", 1, true);
        holdsDue(x, "quarter>94", 94, false);
        holdsDue(x, "quarter>94", 95, true);
        holdsDue(x, "rain>4", 6, false);
        holdsDue(x, "rain>4", 7, true);
        holdsDue(x, "rain>4", 8, false);
        holdsDue(x, "goal>49", 9, true);
        holdsDue(x, "goal>50", 9, false);
        GorgeDay wets = Edges.gorge("gate 1;reach 1 100 100 0 9;rain 5 5 1;place 0 8 0 0;place 0 9 0 0");
        holdsDue(wets, "wet 0", 5, false);
        holdsDue(wets, "wet 0", 6, true);
        holdsDue(wets, "not wet 0", 6, false);
        holdsDue(wets, "not wet 0", 7, true);
        holdsDue(wets, "wet 0 and 0<1", 6, true);
        holdsDue(wets, "wet 0", 7, false);
        holdsDue(wets, "wet 1", 6, false);
        GorgeDay two = Edges.gorge("gate 1;gate 1");
        stepsDue(two, followed(two, "open 0 2 if quarter>4;open 1 3 if gate 0>1"), 1, 4, 0, 0, 3);
        stepsDue(two, followed(two, "open 1 2 if quarter>4;open 0 3 if gate 1>1"), 0, 4, 0, 0, 3);
    }

    private static void ofNone() {
        Edges.edge(39, "of no REACH, GATE, PLACE 0, no.");
        GorgeDay x = Edges.gorge("lake 1 1000 0 0;gate 9;reach 1 0 0 0 9;rain 0 95 9;place 0 0 0 0");
        holdsDue(x, "depth 0>0", 9, true);
        holdsDue(x, "depth 1>0", 9, false);
        holdsDue(x, "depth 7>0", 9, false);
        holdsDue(x, "depth 7<1", 9, true);
        holdsDue(x, "depth 7+1>0 and gate 3+1>0", 9, true);
        holdsDue(x, "wet 0", 9, true);
        holdsDue(x, "wet 1", 9, false);
        holdsDue(x, "wet 11", 9, false);
        holdsDue(x, "not wet 11", 9, true);
        stepsDue(x, followed(x, "open 0 1;open 1 1;open 3 6"), 0, 0, 1);
        x.back();
        holdsDue(x, "gate 1>0 or gate 3>0", 9, false);
        holdsDue(x, "gate 1<1 and gate 3<1", 9, true);
        GorgeDay none = Edges.gorge("");
        Edges.rule(none, "open 0 1 if depth 0<1 and not wet 0 and gate 0<1");
        Edges.due("without GATES", none.follow(0), 0);
        Edges.tape(none, "gate 5").gorge();
        Edges.due("of a GATE told later", none.stepAt(0, 0, 0), 0);
        Edges.due("by the same RULE it is open now", none.stepAt(none.follow(0), 0, 0), 1);
        GorgeDay eight = Edges.gorge("gate 1;" + Edges.times("reach 1 0 0 0 0", 7) + ";reach 1 0 0 0 1;rain 0 0 1", Edges.times("place 7 0 0 0", 12));
        holdsDue(eight, "depth 7>0", 1, true);
        holdsDue(eight, "depth 6>0", 1, false);
        holdsDue(eight, "wet 11", 1, true);
        GorgeDay gone = Edges.gorge("lake 1 1000 0 0;gate 9;rain 0 95 9;reach 1 0 0 0 0");
        gone.image();
        Edges.tape(gone, "reach 1 0 0 0 9;place 1 0 0 0;gate 9").gorge();
        Edges.due("a REACH and a PLACE that are there", holdsFor(gone, "depth 1>0 and wet 0"), true);
        gone.best(1, false);
        gone.back();
        Edges.due("the REACH is there no more", holdsFor(gone, "depth 1>0"), false);
        Edges.due("nor is the PLACE", holdsFor(gone, "wet 0"), false);
        int shut = followed(gone, "shut 0");
        Edges.tape(gone, "gate 9").gorge();
        Edges.due("the GATE was tried, and is there again", gone.stepAt(shut, 1, 95), 0);
        GorgeDay four = Edges.gorge("gate 1;gate 1;gate 1;gate 1");
        stepsDue(four, followed(four, "open 3 6;open 0 1 if gate 3>5"), 0, 0, 0, 1);
    }

    /** Whether a condition holds in QUARTER 9; the OPENING stays, and no image is kept. */
    private static boolean holdsFor(GorgeDay x, String condition) {
        return x.stepAt(followed(x, "open 0 1 if " + condition + ";shut 0"), 0, 9) == 1;
    }

    private static void comparisons() {
        Edges.edge(39, "SUM < SUM | SUM > SUM", "SUM: PART { + PART }");
        GorgeDay x = Edges.gorge("gate 1");
        String[] right = {"not 1<1", "not 1>1", "2>1 and 1<2", "1<2", "2>1", "0<1", "1+1<3", "3>1+1", "2+2<2+3", "2+3>2+2", "999999+1>999999"};
        String[] not = {"not 1<2", "not 2>1", "not 0<1 and 0<1", "1<1", "1>1", "2<1", "1>2", "1+1<2", "2>1+1", "2+2<2+2", "2+2>2+2", "999999+1<999999"};
        for (String condition : right) {
            holdsDue(x, condition, 0, true);
        }
        for (String condition : not) {
            holdsDue(x, condition, 0, false);
        }
        holdsDue(x, "quarter+quarter+1>190", 95, true);
        holdsDue(x, "quarter+quarter+1>190", 94, false);
    }

    private static void joined() {
        Edges.edge(39, "C: ALL { or ALL }; ALL: ATOM { and ATOM }; ATOM: not ATOM | ( C )");
        GorgeDay x = Edges.gorge("gate 1");
        String yes = "0<1";
        String no = "1<0";
        for (int i = 0; i < 8; i++) {
            boolean a = (i & 1) != 0;
            boolean b = (i & 2) != 0;
            boolean c = (i & 4) != 0;
            String p = a ? yes : no;
            String q = b ? yes : no;
            String r = c ? yes : no;
            holdsDue(x, p + " or " + q + " and " + r, 0, a || b && c);
            holdsDue(x, p + " and " + q + " or " + r, 0, a && b || c);
            holdsDue(x, p + " or " + q + " or " + r, 0, a || b || c);
            holdsDue(x, p + " and " + q + " and " + r, 0, a && b && c);
            holdsDue(x, "(" + p + " or " + q + ") and " + r, 0, (a || b) && c);
            holdsDue(x, p + " and (" + q + " or " + r + ")", 0, a && (b || c));
            holdsDue(x, "not " + p + " and " + q + " or not(" + r + ")", 0, !a && b || !c);
            holdsDue(x, "not(" + p + " and not " + q + ") and not not " + r, 0, !(a && !b) && c);
            holdsDue(x, p + " and " + q + " or " + r + " and " + p + " or " + q + " and " + r, 0, a && b || c && a || b && c);
        }
        String deep = "(0<1 and (1<0 or (0<1 and (1<0 or (0<1 and (1<0 or 1+1<2+1))))))";
        holdsDue(x, deep, 0, true);
        holdsDue(x, deep.replace("1+1<2+1", "2+1<1+1"), 0, false);
        holdsDue(x, "0<1 and 1<0 or " + deep + " and " + deep, 0, true);
    }

    private static void keeps() {
        Edges.edge(40, "What an OPENING by which a RULE is FOLLOWED would be JUDGED.");
        GorgeDay x = Edges.gorge("lake 10 1000 50 10;gate 100 200;reach 1 100 100 0 0;place 0 150 2 7");
        for (int i = 0; i < 6; i++) {
            x.open();
        }
        int shut = Edges.rule(x, "");
        int open = Edges.rule(x, "open 0 1");
        int wide = Edges.rule(x, "open 0 2");
        Edges.due("shut", x.keeps(shut), 1);
        Edges.due("open", x.keeps(open), 0);
        x.bounds(0, 999, 6);
        Edges.due("STEP 1 makes nothing WET", x.keeps(open), 0);
        Edges.due("STEP 2 does", x.keeps(wide), 4);
        x.bounds(0, 9, 6);
        Edges.due("its FALLs, too", x.keeps(wide), 3);
        x.person(0, 0, 95, 0, 0, 99);
        Edges.due("WET in QUARTER FROM", x.keeps(wide), 3);
        int late = Edges.rule(x, "open 0 2 if quarter>0");
        Edges.due("one is CAUGHT", x.keeps(late), 2);
        Edges.due("though there is no room for it", x.count(4), 6);
        Edges.due("no OPENING is another one", x.stepAt(5, 0, 95), 0);
    }
}
