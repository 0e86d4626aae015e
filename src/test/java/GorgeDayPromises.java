/** For each promise of the document: ordinary inputs, the edges that it names, and wrong inputs. */
public final class GorgeDayPromises {
    private static final Class<?> INDEX = IndexOutOfBoundsException.class;
    private static final Class<?> ARGUMENT = IllegalArgumentException.class;
    private static final Class<?> ROOM = UnsupportedOperationException.class;
    private static final int FAR = Integer.MAX_VALUE;
    private static final int LOW = Integer.MIN_VALUE;

    /** A lake that is let down by one gate, two reaches, a place at each. */
    private static final String VALLEY = "lake 10 1000 50 10;gate 100 200;reach 10 10 50 20 1;reach 5 20 40 10 0;"
            + "place 0 4 1 7;place 1 9 2 5";

    private static int wrong = 0;
    private static int promise = 0;

    private interface Call {
        void go();
    }

    private static void due(String what, long got, long want) {
        if (got != want) {
            wrong++;
            System.out.println("promise " + promise + ": " + what + " answered " + got + ", due is " + want);
        }
    }

    private static void due(String what, boolean got, boolean want) {
        due(what, got ? 1 : 0, want ? 1 : 0);
    }

    private static void thrown(String what, Class<?> want, Call call) {
        Class<?> got = null;
        try {
            call.go();
        } catch (RuntimeException e) {
            got = e.getClass();
        }
        if (got != want) {
            wrong++;
            System.out.println("promise " + promise + ": " + what + " threw " + got + ", due is " + want);
        }
    }

    private static GorgeDay tape(GorgeDay x, String text) {
        x.end(0);
        for (int i = 0; i < text.length(); i += 20) {
            int[] n = new int[5];
            for (int j = 0; j < 20 && i + j < text.length(); j++) {
                n[j / 4] |= text.charAt(i + j) << 24 - j % 4 * 8;
            }
            x.feed(n[0], n[1], n[2], n[3], n[4]);
        }
        x.end(text.length());
        return x;
    }

    private static GorgeDay with(String... texts) {
        GorgeDay x = new GorgeDay();
        for (String text : texts) {
            tape(x, text).gorge();
        }
        return x;
    }

    private static int ruleOf(GorgeDay x, String text) {
        return tape(x, text).rule();
    }

    private static void wrongGorge(GorgeDay x, String text, int at) {
        thrown("gorge \"" + text + "\"", ARGUMENT, () -> tape(x, text).gorge());
        due("fault of \"" + text + "\"", x.fault(), at);
    }

    private static void wrongRule(GorgeDay x, String text, int at) {
        thrown("rule \"" + text + "\"", ARGUMENT, () -> tape(x, text).rule());
        due("fault of \"" + text + "\"", x.fault(), at);
    }

    private static GorgeDay valley() {
        GorgeDay x = with(VALLEY);
        x.open();
        x.step(0, 0, 0, 95, 1);
        return x;
    }

    private static String times(String line, int n) {
        StringBuilder b = new StringBuilder();
        for (int i = 0; i < n; i++) {
            b.append(i == 0 ? "" : ";").append(line);
        }
        return b.toString();
    }

    public static void main(String[] args) {
        newObject();
        feedAndEnd();
        gorgeTexts();
        gorgeBounds();
        gorgeRoom();
        ruleTexts();
        faults();
        openAndCopy();
        stepSlowPulse();
        waters();
        gatesTogether();
        mostAndWet();
        harmDownLatest();
        persons();
        callsTold();
        caughtOnes();
        oddsAndFear();
        boundsAndJudge();
        bestOpening();
        whomToCall();
        wardens();
        warning();
        bearing();
        closings();
        powers();
        hourPlans();
        following();
        ruleParts();
        logs();
        nearness();
        plays();
        images();
        counts();
        System.out.println(wrong == 0 ? "all promises hold" : wrong + " answers are not as due");
        if (wrong != 0) {
            System.exit(1);
        }
    }

    private static void newObject() {
        promise = 1;
        GorgeDay x = new GorgeDay();
        for (int what = 0; what <= 11; what++) {
            due("count(" + what + ")", x.count(what), 0);
        }
        due("fault", x.fault(), -1);
        due("end(0)", x.end(0), true);
        due("end(1)", x.end(1), false);
        due("NONE", GorgeDay.NONE, -1);
        // Without any text the lake has AREA 1, GOAL 0, BY 95.
        x.open();
        due("level", x.level(0, 0), 0);
        due("judge", x.judge(0), 0);
        due("calls", x.calls(), 0);
        tape(x, "into 3 3 7;into 95 95 1").gorge();
        due("AREA 1", x.level(0, 3), 7);
        due("above GOAL 0", x.judge(0), 1);
        tape(x, "into 3 3 0").gorge();
        due("above GOAL 0 in QUARTER 95 alone", x.judge(0), 1);
        tape(x, "into 95 95 0").gorge();
        due("not above it", x.judge(0), 0);
    }

    private static void feedAndEnd() {
        promise = 2;
        GorgeDay x = new GorgeDay();
        for (int i = 1; i <= 20; i++) {
            due("feed", x.feed(0x20202020, 0x20202020, 0x20202020, 0x20202020, 0x20202020), i * 20);
        }
        due("feed beyond 400", x.feed(0, 0, 0, 0, 0), -1);
        due("gorge of 400 blanks", x.gorge(), 1);
        due("the tape is used up", x.end(1), false);
        x.feed(0x67617465, 0x20373b67, 0x61746520, 0x38202020, 0x20202020);
        due("gorge, the highest byte first", x.gorge(), 2);
        due("gates", x.count(1), 2);
        for (int i = 0; i < 20; i++) {
            x.feed(LOW, -1, FAR, 0, 1);
        }
        promise = 3;
        due("end(-1)", x.end(-1), false);
        due("end(401)", x.end(401), false);
        due("end(MIN)", x.end(LOW), false);
        due("end(400)", x.end(400), true);
        due("end(381)", x.end(381), true);
        due("feed behind 381", x.feed(0, 0, 0, 0, 0), -1);
        due("end(380)", x.end(380), true);
        due("feed behind 380", x.feed(0, 0, 0, 0, 0), 400);
        due("end(0)", x.end(0), true);
        due("end(1)", x.end(1), false);
    }

    private static void gorgeTexts() {
        promise = 4;
        GorgeDay x = new GorgeDay();
        due("empty", x.gorge(), 1);
        due("blanks", tape(x, "    ").gorge(), 2);
        due("no blanks where none are needed", tape(x, "lake10 1000 50 10;gate1;  reach5 1 2 3 4  ").gorge(), 3);
        due("level at first", x.count(9), 100);
        due("the last lake counts", tape(x, "lake 10 1000 50 10 ; lake 7 700 1 1").gorge(), 4);
        due("level at first", x.count(9), 100);
        tape(x, "lake 9999 999999 9999 95").gorge();
        due("level at first", x.count(9), 100);
        tape(x, "into 0 95 2;into 10 19 9999;into 95 95 0").gorge();
        due("inflow of all", x.count(10), 2 * 85 + 9999 * 10);
        // Of a wrong text nothing stays, and the text is used up.
        wrongGorge(x, "gate 1;reach 1 1 1 1 1;place 0 0 0 0;into 0 95 0;lake 1 1 1 1;gate 10000", 67);
        due("gates", x.count(1), 1);
        due("reaches", x.count(2), 1);
        due("places", x.count(3), 0);
        due("level at first", x.count(9), 100);
        due("inflow", x.count(10), 2 * 85 + 9999 * 10);
        due("texts", x.count(0), 6);
        due("used up", x.end(1), false);
        for (int i = 7; i <= 12; i++) {
            due("empty", x.gorge(), i);
        }
        thrown("a 13th text", ROOM, () -> tape(x, "gate 5").gorge());
        due("fault of a right one that is refused", x.fault(), -1);
        due("gates", x.count(1), 1);
        due("used up", x.end(1), false);
        wrongGorge(x, "gate x", 5);
    }

    private static void gorgeBounds() {
        promise = 4;
        GorgeDay x = new GorgeDay();
        wrongGorge(x, "lake 10000 0 0 0", 5);
        wrongGorge(x, "lake 1 1000000 0 0", 7);
        wrongGorge(x, "lake 1 0 10000 0", 9);
        wrongGorge(x, "lake 1 0 0 96", 11);
        wrongGorge(x, "into 96 96 0", 5);
        wrongGorge(x, "into 0 96 0", 7);
        wrongGorge(x, "into 9 8 0", 7);
        wrongGorge(x, "into 9 9 10000", 9);
        wrongGorge(x, "rain 9 8 0", 7);
        wrongGorge(x, "rain 9 9 10", 9);
        wrongGorge(x, "price 9 8 0", 8);
        wrongGorge(x, "price 9 9 100", 10);
        wrongGorge(x, "gate 10000", 5);
        wrongGorge(x, "reach 0 0 0 0 0", 6);
        wrongGorge(x, "reach 1000 0 0 0 0", 6);
        wrongGorge(x, "reach 1 101 0 0 0", 8);
        wrongGorge(x, "reach 1 0 101 0 0", 10);
        wrongGorge(x, "reach 1 0 0 1000 0", 12);
        wrongGorge(x, "reach 1 0 0 0 100", 14);
        wrongGorge(x, "place 0 0 0 0", 6);
        due("greatest ones", tape(x, "reach 999 100 100 999 99;place 0 999 12 999;rain 95 95 9;price 0 0 99").gorge(), 1);
        wrongGorge(x, "place 1 0 0 0", 6);
        wrongGorge(x, "place 0 1000 0 0", 8);
        wrongGorge(x, "place 0 0 13 0", 10);
        wrongGorge(x, "place 0 0 0 1000", 12);
        wrongGorge(x, "place 0 0 0", 11);
        wrongGorge(x, "place 0 0 0  ", 13);
        wrongGorge(x, "place 0 0 0;", 11);
        wrongGorge(x, "Lake 1 2 3 4", 0);
        wrongGorge(x, " \000", 1);
        wrongGorge(x, "gate -1", 5);
        wrongGorge(x, "gate 1,2", 6);
        wrongGorge(x, "gate 1 gate 2", 7);
        wrongGorge(x, "gate 1;;gate 2", 7);
        wrongGorge(x, "gate1gate2", 5);
        wrongGorge(x, "gategate 1", 0);
        wrongGorge(x, "bate 1", 0);
        wrongGorge(x, "gats 1", 0);
        wrongGorge(x, "gat 1", 0);
        wrongGorge(x, "12", 0);
        wrongGorge(x, "gate 1\377", 6);
        wrongGorge(x, "gate 1\t2", 6);
    }

    private static void gorgeRoom() {
        promise = 4;
        GorgeDay x = new GorgeDay();
        due("12 lines", tape(x, times("rain 0 0 1", 12)).gorge(), 1);
        wrongGorge(x, times("rain 0 0 1", 13), 12 * 11);
        wrongGorge(x, times("rain 0 0 1", 12) + ";", 12 * 11);
        wrongGorge(x, times("rain 0 0 1", 12) + " ;  ", 12 * 11 + 3);
        wrongGorge(x, times("rain 0 0 1", 12) + "; 5", 12 * 11 + 1);
        wrongGorge(x, times("rain 0 0 1", 12) + " 5", 12 * 11);
        wrongGorge(x, times("gate 1", 5), 28);
        due("4 gates", tape(x, times("gate 1", 4)).gorge(), 2);
        wrongGorge(x, "  gate 10000", 2);
        due("8 reaches", tape(x, times("reach 1 0 0 0 0", 8)).gorge(), 3);
        wrongGorge(x, "reach 1 0 0 0 0", 0);
        due("12 places", tape(x, times("place 7 0 0 0", 12)).gorge(), 4);
        wrongGorge(x, "rain 0 0 0;place 0 0 0 0", 11);
        due("places", x.count(3), 12);
    }

    private static void ruleTexts() {
        promise = 5;
        GorgeDay x = new GorgeDay();
        wrongRule(x, "open", 4);
        wrongRule(x, "open 0", 6);
        wrongRule(x, "open 0 1 if", 11);
        wrongRule(x, "open 0 1 iff level<1", 9);
        wrongRule(x, "open 0 1 level<1", 9);
        wrongRule(x, "open 0 0", 7);
        wrongRule(x, "open 0 0000001", 7);
        wrongRule(x, "shut 4", 5);
        wrongRule(x, "shut 0 if not", 13);
        wrongRule(x, "shut 0 if ()", 11);
        wrongRule(x, "shut 0 if (level<1", 18);
        wrongRule(x, "shut 0 if level<1)", 17);
        wrongRule(x, "shut 0 if level<1<2", 17);
        wrongRule(x, "shut 0 if level<=2", 16);
        wrongRule(x, "shut 0 if level<", 16);
        wrongRule(x, "shut 0 if level+<1", 16);
        wrongRule(x, "shut 0 if (level+1)<1", 18);
        wrongRule(x, "shut 0 if wet 0<1", 15);
        wrongRule(x, "shut 0 if 1<wet 0", 12);
        wrongRule(x, "shut 0 if wet 0 and", 19);
        wrongRule(x, "shut 0 if wet 0 or or", 19);
        wrongRule(x, "shut 0 if wet 12", 14);
        wrongRule(x, "shut 0 if gate 4>1", 15);
        wrongRule(x, "shut 0 if depth 8>1", 16);
        wrongRule(x, "shut 0 if 1234567>1", 10);
        wrongRule(x, "shut 0 if rain>1;", 17);
        wrongRule(x, ";shut 0", 0);
        wrongRule(x, "shut 0;shut 0 if", 16);
        wrongRule(x, "shut 0 if not not not not not not not wet 0", 34);
        wrongRule(x, "shut 0 if ((((((( wet 0", 16);
        wrongRule(x, "shut 0 if (not(not(not(wet 0))))", 22);
        wrongRule(x, times("shut 0", 13), 84);
        due("rules", x.count(7), 0);
        due("deep enough", ruleOf(x, "shut 0 if (not(not(not wet 0)))or not not not not not not 1<2"), 0);
        due("12 lines, blanks", ruleOf(x, "  " + times(" shut 3 ", 12) + "  "), 1);
        due("all parts", ruleOf(x, "open 3 6 if 999999+level+goal+quarter+rain+depth 7+gate 3>0 and wet11"), 2);
        due("empty", ruleOf(x, ""), 3);
        thrown("a 5th rule", ROOM, () -> ruleOf(x, "shut 0"));
        due("fault", x.fault(), -1);
        due("used up", x.end(1), false);
        wrongRule(x, "shut", 4);
        due("rules", x.count(7), 4);
    }

    private static void faults() {
        promise = 6;
        GorgeDay x = new GorgeDay();
        due("ahead of any", x.fault(), -1);
        wrongGorge(x, "gate 1 ; gone", 9);
        x.open();
        due("still", x.fault(), 9);
        due("right", tape(x, "gate 1").gorge(), 1);
        due("none", x.fault(), -1);
        wrongRule(x, "  shut", 6);
        x.image();
        tape(x, "").rule();
        due("none", x.fault(), -1);
        wrongRule(x, "?", 0);
        x.back();
        due("not gone back to", x.fault(), 0);
    }

    private static void openAndCopy() {
        promise = 7;
        GorgeDay x = with("gate 5 6");
        due("open", x.open(), 0);
        due("open", x.open(), 1);
        promise = 8;
        thrown("copy(2)", INDEX, () -> x.copy(2));
        thrown("copy(-1)", INDEX, () -> x.copy(-1));
        x.step(1, 0, 3, 5, 2);
        due("copy(1)", x.copy(1), 2);
        due("as the other", x.stepAt(2, 0, 5), 2);
        x.step(2, 0, 0, 95, 1);
        due("the other stays", x.stepAt(1, 0, 5), 2);
        x.open();
        x.open();
        due("copy(2)", x.copy(2), 5);
        thrown("a 7th by copy", ROOM, () -> x.copy(0));
        thrown("of none, before room", INDEX, () -> x.copy(6));
        promise = 7;
        thrown("a 7th by open", ROOM, x::open);
        due("openings", x.count(4), 6);
        x.image();
        x.back();
        due("closed at first", x.stepAt(3, 0, 95), 0);
        tape(x, "gate 7").gorge();
        due("a gate told later, too", x.stepAt(1, 1, 4), 0);
    }

    private static void stepSlowPulse() {
        GorgeDay x = with("gate 5 6", "gate 1");
        x.open();
        promise = 9;
        x.step(0, 1, 95, 95, 6);
        due("as it is told", x.stepAt(0, 1, 95), 6);
        due("ahead of it", x.stepAt(0, 1, 94), 0);
        due("another gate", x.stepAt(0, 0, 95), 0);
        thrown("step", INDEX, () -> x.step(1, 0, 0, 0, 0));
        thrown("step", INDEX, () -> x.step(-1, 0, 0, 0, 0));
        thrown("step", INDEX, () -> x.step(0, 2, 0, 0, 0));
        thrown("step", INDEX, () -> x.step(0, -1, 0, 0, 0));
        thrown("step", INDEX, () -> x.step(0, 0, -1, 0, 0));
        thrown("step", INDEX, () -> x.step(0, 0, 0, 96, 9));
        thrown("step", ARGUMENT, () -> x.step(0, 0, 5, 4, 0));
        thrown("step", ARGUMENT, () -> x.step(0, 0, 4, 4, 7));
        thrown("step", ARGUMENT, () -> x.step(0, 0, 4, 4, -1));
        promise = 10;
        x.slow(0, 0, 10, 3, 2);
        int[] steps = {0, 1, 1, 2, 2, 3, 3, 3};
        for (int i = 0; i < steps.length; i++) {
            due("slow up " + i, x.stepAt(0, 0, 9 + i), steps[i]);
        }
        due("to the end", x.stepAt(0, 0, 95), 3);
        x.slow(0, 0, 20, 1, 1);
        due("slow down", x.stepAt(0, 0, 20), 2);
        due("slow down", x.stepAt(0, 0, 21), 1);
        due("slow down", x.stepAt(0, 0, 95), 1);
        x.slow(0, 0, 0, 6, 96);
        due("from 0 in quarter 0", x.stepAt(0, 0, 0), 1);
        due("each 96", x.stepAt(0, 0, 95), 1);
        x.slow(0, 0, 50, 1, 1);
        due("there already", x.stepAt(0, 0, 95), 1);
        thrown("slow", INDEX, () -> x.slow(1, 0, 0, 0, 1));
        thrown("slow", INDEX, () -> x.slow(0, 2, 0, 0, 1));
        thrown("slow", INDEX, () -> x.slow(0, 0, 96, 7, 0));
        thrown("slow", ARGUMENT, () -> x.slow(0, 0, 0, 7, 1));
        thrown("slow", ARGUMENT, () -> x.slow(0, 0, 0, -1, 1));
        thrown("slow", ARGUMENT, () -> x.slow(0, 0, 0, 0, 0));
        thrown("slow", ARGUMENT, () -> x.slow(0, 0, 0, 0, 97));
        promise = 11;
        x.pulse(0, 0, 90, 4, 3, 1);
        due("wave", x.stepAt(0, 0, 90), 4);
        due("wave", x.stepAt(0, 0, 92), 4);
        due("wait", x.stepAt(0, 0, 93), 0);
        due("as it was", x.stepAt(0, 0, 94), 1);
        x.pulse(0, 0, 90, 5, 96, 96);
        due("as far as there are", x.stepAt(0, 0, 95), 5);
        x.pulse(0, 0, 0, 0, 1, 0);
        due("no wait", x.stepAt(0, 0, 1), 1);
        thrown("pulse", INDEX, () -> x.pulse(1, 0, 0, 0, 1, 0));
        thrown("pulse", INDEX, () -> x.pulse(0, 2, 0, 0, 1, 0));
        thrown("pulse", INDEX, () -> x.pulse(0, 0, -1, 9, 0, 0));
        thrown("pulse", ARGUMENT, () -> x.pulse(0, 0, 0, 7, 1, 0));
        thrown("pulse", ARGUMENT, () -> x.pulse(0, 0, 0, 0, 0, 0));
        thrown("pulse", ARGUMENT, () -> x.pulse(0, 0, 0, 0, 97, 0));
        thrown("pulse", ARGUMENT, () -> x.pulse(0, 0, 0, 0, 1, 97));
        thrown("pulse", ARGUMENT, () -> x.pulse(0, 0, 0, 0, 1, -1));
        promise = 12;
        thrown("stepAt", INDEX, () -> x.stepAt(1, 0, 0));
        thrown("stepAt", INDEX, () -> x.stepAt(0, 2, 0));
        thrown("stepAt", INDEX, () -> x.stepAt(0, 0, 96));
        thrown("stepAt", INDEX, () -> x.stepAt(0, 0, -1));
        x.step(0, 1, 0, 0, 6);
        due("as it is told, not as it is", x.stepAt(0, 1, 0), 6);
    }

    private static void waters() {
        GorgeDay x = valley();
        promise = 13;
        // The lake by quarters: 1000, 900, 810, 729, 657, 592, .. ; REACH 0: 100, 180, 243 (24 deep, so quick), 193 ..
        int[] lake = {900, 810, 729, 657, 592, 533};
        int[] first = {100, 180, 243, 194};
        int[] second = {0, 10, 26, 142};
        for (int q = 0; q < lake.length; q++) {
            due("lake " + q, x.water(0, -1, q), lake[q]);
        }
        for (int q = 0; q < first.length; q++) {
            due("reach 0 in " + q, x.water(0, 0, q), first[q]);
            due("reach 1 in " + q, x.water(0, 1, q), second[q]);
        }
        thrown("water", INDEX, () -> x.water(1, -1, 0));
        thrown("water", INDEX, () -> x.water(0, 2, 0));
        thrown("water", INDEX, () -> x.water(0, -2, 0));
        thrown("water", INDEX, () -> x.water(0, -1, 96));
        promise = 14;
        due("level", x.level(0, 0), 90);
        due("level", x.level(0, 3), 65);
        thrown("level", INDEX, () -> x.level(1, 0));
        thrown("level", INDEX, () -> x.level(0, 96));
        thrown("level", INDEX, () -> x.level(0, -1));
        promise = 15;
        due("depth", x.depth(0, 0, 2), 24);
        due("depth", x.depth(0, 1, 2), 5);
        thrown("depth", INDEX, () -> x.depth(1, 0, 0));
        thrown("depth", INDEX, () -> x.depth(0, -1, 0));
        thrown("depth", INDEX, () -> x.depth(0, 2, 0));
        thrown("depth", INDEX, () -> x.depth(0, 0, 96));
        promise = 16;
        due("let go", x.flow(0, 0, false), 100);
        due("let go", x.flow(0, 3, false), 72);
        due("gone", x.flow(0, 1, true), 0);
        due("gone", x.flow(0, 2, true), 2);
        due("gone", x.flow(0, 3, true), 7);
        thrown("flow", INDEX, () -> x.flow(1, 0, true));
        thrown("flow", INDEX, () -> x.flow(0, 96, true));
        // Rain fills the brook of REACH 0 from now on.
        promise = 13;
        tape(x, "rain 1 1 7;into 0 0 1000;reach 3 0 0 0 2").gorge();
        due("inflow comes behind what is let go", x.water(0, -1, 0), 1900);
        due("level is far above the first one", x.flow(0, 1, false), 190);
        due("brook", x.water(0, 0, 1), 100 + 190 - 10 + 7);
        due("brook of the last", x.water(0, 2, 1), 14);
        due("nothing goes", x.water(0, 2, 2), 14 + 2);
    }

    private static void gatesTogether() {
        promise = 16;
        GorgeDay x = with("lake 1 100 0 95;gate 70;gate 20 60;gate 50");
        x.open();
        x.step(0, 0, 0, 0, 1);
        x.step(0, 1, 0, 0, 6);
        x.step(0, 2, 0, 0, 1);
        // 70, then the 30 that are left of 60 (STEP 6 is its last), then nothing of 50.
        due("no more than is left", x.flow(0, 0, false), 100);
        due("without reaches what is let go is gone", x.flow(0, 95, true), 100);
        due("empty", x.water(0, -1, 0), 0);
        x.step(0, 1, 0, 0, 1);
        x.step(0, 2, 0, 0, 0);
        due("by numbers", x.flow(0, 0, false), 90);
        GorgeDay low = with("lake 10 9 0 95;gate 100;into 0 0 500");
        low.open();
        low.step(0, 0, 0, 95, 1);
        due("no level at first: nothing is let go", low.flow(0, 50, false), 0);
        due("it stays", low.water(0, -1, 95), 509);
        GorgeDay least = with("lake 1 1 0 95;gate 100");
        least.open();
        least.step(0, 0, 9, 95, 1);
        due("level 1 at first", least.flow(0, 9, false), 1);
        GorgeDay great = with("lake 1 999999 0 95;gate 9999;into 0 95 9999");
        great.open();
        due("the greatest lake", great.water(0, -1, 95), 999999 + 96 * 9999);
        great.step(0, 0, 95, 95, 1);
        due("no number goes round", great.flow(0, 95, false), (int) (9999L * (999999 + 95 * 9999) / 999999));
    }

    private static void mostAndWet() {
        GorgeDay x = valley();
        promise = 17;
        due("rise", x.most(0, 0, false, false), 10);
        due("first of it", x.most(0, 0, false, true), 0);
        due("rise", x.most(0, 1, false, false), 23);
        due("first of it", x.most(0, 1, false, true), 3);
        // REACH 0 is 10, 18, 24, 19, 24, 17 deep.
        due("fall", x.most(0, 0, true, false), 7);
        due("first of it", x.most(0, 0, true, true), 5);
        GorgeDay flat = with("reach 1 0 0 0 1");
        flat.open();
        due("nothing falls", flat.most(0, 0, true, false), 0);
        due("first", flat.most(0, 0, true, true), 0);
        tape(flat, "rain 0 95 2;rain 7 7 1").gorge();
        due("it rises always: the least rise is the greatest fall", flat.most(0, 0, true, false), -1);
        due("first", flat.most(0, 0, true, true), 7);
        thrown("most", INDEX, () -> x.most(1, 0, false, false));
        thrown("most", INDEX, () -> x.most(0, 2, false, false));
        thrown("most", INDEX, () -> x.most(0, -1, false, false));
        promise = 18;
        due("wet", x.wet(0, 0, 0), true);
        due("wet", x.wet(0, 1, 2), false);
        due("wet", x.wet(0, 1, 3), true);
        thrown("wet", INDEX, () -> x.wet(1, 0, 0));
        thrown("wet", INDEX, () -> x.wet(0, 2, 0));
        thrown("wet", INDEX, () -> x.wet(0, 0, 96));
        tape(x, "place 0 10 0 0;place 0 9 0 0").gorge();
        due("dry, if it is no deeper", x.wet(0, 2, 0), false);
        due("wet, if it is deeper", x.wet(0, 3, 0), true);
    }

    private static void harmDownLatest() {
        GorgeDay x = valley();
        promise = 19;
        due("harm", x.harm(0), 12);
        tape(x, "place 0 999 0 999;place 1 27 0 100").gorge();
        due("of wet ones alone", x.harm(0), 112);
        x.open();
        due("none", x.harm(1), 0);
        GorgeDay early = with("reach 1 100 100 0 9;place 0 1 0 3;rain 0 0 1");
        early.open();
        due("wet in quarter 0 alone", early.harm(0), 3);
        GorgeDay late = with("reach 1 100 100 0 9;place 0 1 0 3;rain 95 95 1");
        late.open();
        due("wet in quarter 95 alone", late.harm(0), 3);
        thrown("harm", INDEX, () -> x.harm(2));
        promise = 20;
        due("down", x.down(0), 6);
        due("never", x.down(1), -1);
        tape(x, "lake 10 1000 53 0").gorge();
        due("goal at most", x.down(0), 5);
        thrown("down", INDEX, () -> x.down(-1));
        promise = 21;
        due("below 0", x.latest(0, 0), -1);
        due("latest", x.latest(0, 1), 1);
        due("never", x.latest(0, 2), 99);
        GorgeDay last = with("reach 1 100 100 0 9;place 0 1 12 3;rain 95 95 1");
        last.open();
        due("wet in quarter 95 alone", last.latest(0, 0), 83);
        thrown("latest", INDEX, () -> x.latest(2, 0));
        thrown("latest", INDEX, () -> x.latest(0, 4));
    }

    private static void persons() {
        promise = 22;
        GorgeDay x = valley();
        thrown("person", INDEX, () -> x.person(2, 0, 0, 0, 0, 1));
        thrown("person", INDEX, () -> x.person(-1, 0, 0, 0, 0, 1));
        thrown("person", INDEX, () -> x.person(0, 96, 0, 0, 0, 1));
        thrown("person", INDEX, () -> x.person(0, 1, -1, 0, 0, 1));
        thrown("person", INDEX, () -> x.person(0, 0, 0, 101, 96, 0));
        thrown("person", ARGUMENT, () -> x.person(0, 1, 0, 0, 0, 1));
        thrown("person", ARGUMENT, () -> x.person(0, 0, 0, -1, 0, 1));
        thrown("person", ARGUMENT, () -> x.person(0, 0, 0, 101, 0, 1));
        thrown("person", ARGUMENT, () -> x.person(0, 0, 0, 0, 0, 0));
        thrown("person", ARGUMENT, () -> x.person(0, 0, 0, 0, 0, 100));
        for (int i = 0; i < 10; i++) {
            due("person", x.person(i % 2, 95, 95, i * 10, 95, 1 + i * 10), i);
        }
        thrown("an 11th", ROOM, () -> x.person(0, 0, 0, 0, 0, 1));
        thrown("an 11th who is none", ARGUMENT, () -> x.person(0, 0, 0, 0, 0, 0));
        due("people", x.count(5), 10);
    }

    private static void callsTold() {
        promise = 23;
        GorgeDay x = with("reach 1 0 0 0 0;" + times("place 0 0 0 0", 7));
        thrown("call", INDEX, () -> x.call(7, 0));
        thrown("call", INDEX, () -> x.call(0, 96));
        thrown("call", INDEX, () -> x.call(0, -1));
        for (int i = 0; i < 4; i++) {
            due("call", x.call(0, 95), i + 1);
        }
        thrown("a 5th of one place", ROOM, () -> x.call(0, 0));
        for (int i = 0; i < 20; i++) {
            due("call", x.call(1 + i % 5, i), i + 5);
        }
        thrown("a 25th", ROOM, () -> x.call(6, 0));
        due("calls", x.count(6), 24);
        promise = 24;
        due("put away", x.calls(), 24);
        due("none", x.calls(), 0);
        due("none", x.count(6), 0);
        due("again", x.call(0, 0), 1);
    }

    private static void caughtOnes() {
        promise = 25;
        GorgeDay x = valley();
        // PLACE 1 is wet from quarter 3 on, until the reach has run dry again.
        int last = 95;
        while (!x.wet(0, 1, last)) {
            last--;
        }
        x.person(1, 0, 2, 0, 0, 99);
        x.person(1, 2, 3, 0, 0, 99);
        x.person(1, 3, 9, 0, 0, 99);
        x.person(1, last + 1, 95, 0, 0, 99);
        x.person(1, 2, 2, 0, 0, 99);
        due("gone by then", x.caught(0, 0), -1);
        due("till is in it", x.caught(0, 1), 3);
        due("wet when one comes", x.caught(0, 2), -1);
        due("behind it", x.caught(0, 3), -1);
        due("one quarter", x.caught(0, 4), -1);
        thrown("caught", INDEX, () -> x.caught(1, 0));
        thrown("caught", INDEX, () -> x.caught(0, 5));
        thrown("caught", INDEX, () -> x.caught(0, -1));
    }

    private static void oddsAndFear() {
        promise = 26;
        GorgeDay x = valley();
        // PLACE 1: wet from quarter 3 on, OFF 2: what is in time is in quarters 0 and 1; RISE of REACH 1: 0, 2, 3, 23.
        x.person(1, 0, 9, 30, 0, 99);
        x.person(1, 0, 9, 30, 1, 99);
        x.person(1, 1, 9, 30, 0, 99);
        x.person(1, 0, 9, 30, 2, 1);
        x.person(1, 0, 9, 30, 0, 2);
        x.person(1, 0, 9, 30, 0, 3);
        x.person(0, 0, 9, 30, 0, 99);
        due("nobody calls", x.odds(0, 0), 100000000);
        x.call(1, 0);
        due("one call", x.odds(0, 0), 70000000);
        due("asleep", x.odds(0, 1), 100000000);
        due("not there", x.odds(0, 2), 100000000);
        x.call(1, 1);
        x.call(0, 0);
        due("two calls", x.odds(0, 0), 49000000);
        due("awake", x.odds(0, 1), 70000000);
        due("there", x.odds(0, 2), 70000000);
        due("awake too late", x.odds(0, 3), 100000000);
        due("sees it rise", x.odds(0, 4), 0);
        due("sees it rise too late", x.odds(0, 5), 49000000);
        due("not caught", x.odds(0, 6), 0);
        x.call(1, 2);
        due("too late", x.odds(0, 0), 49000000);
        x.call(1, 1);
        due("three calls", x.odds(0, 0), 34300000);
        due("would be caught still", x.caught(0, 4), 3);
        thrown("odds", INDEX, () -> x.odds(1, 0));
        thrown("odds", INDEX, () -> x.odds(0, 7));
        promise = 27;
        due("fear", x.fear(0), 34300000L + 49000000 + 49000000 + 100000000 + 0 + 34300000 + 0);
        x.calls();
        due("fear", x.fear(0), 500000000L);
        x.call(1, 0);
        x.call(1, 0);
        x.call(1, 0);
        x.call(1, 0);
        due("four calls", x.odds(0, 0), 24010000);
        x.open();
        due("no water", x.fear(1), 0);
        thrown("fear", INDEX, () -> x.fear(2));
    }

    private static void boundsAndJudge() {
        promise = 28;
        GorgeDay x = valley();
        thrown("bounds", ARGUMENT, () -> x.bounds(-1, 0, 0));
        thrown("bounds", ARGUMENT, () -> x.bounds(1001, 0, 0));
        thrown("bounds", ARGUMENT, () -> x.bounds(0, -1, 0));
        thrown("bounds", ARGUMENT, () -> x.bounds(0, 1000, 0));
        thrown("bounds", ARGUMENT, () -> x.bounds(0, 0, -1));
        thrown("bounds", ARGUMENT, () -> x.bounds(0, 0, 100000));
        promise = 29;
        due("at first", x.judge(0), 0);
        x.person(1, 0, 9, 30, 0, 99);
        due("fear", x.judge(0), 2);
        x.bounds(99, 999, 99999);
        due("fear", x.judge(0), 2);
        x.bounds(100, 999, 99999);
        due("as much as the bound", x.judge(0), 0);
        int fall = Math.max(x.most(0, 0, true, false), x.most(0, 1, true, false));
        x.bounds(100, fall, 99999);
        due("as much as the bound", x.judge(0), 0);
        x.bounds(100, fall - 1, 0);
        due("fall ahead of harm", x.judge(0), 3);
        x.bounds(1000, 999, 11);
        due("harm", x.judge(0), 4);
        x.bounds(0, 0, 12);
        due("fear ahead of fall", x.judge(0), 2);
        x.bounds(1000, 999, 12);
        due("as much as the bound", x.judge(0), 0);
        tape(x, "lake 10 1000 53 4").gorge();
        due("level 59 in quarter 4", x.judge(0), 1);
        tape(x, "lake 10 1000 59 4").gorge();
        due("level 59 in quarter 4", x.judge(0), 0);
        thrown("judge", INDEX, () -> x.judge(1));
        GorgeDay slight = valley();
        slight.person(1, 0, 9, 99, 0, 99);
        for (int i = 0; i < 4; i++) {
            slight.call(1, 1);
        }
        due("a hundred-millionth", slight.fear(0), 1);
        due("is more than the bound at first", slight.judge(0), 2);
        GorgeDay deep = with("lake 1 1000 1 95;gate 999 1000;reach 1 100 100 0 0");
        deep.open();
        deep.step(0, 0, 0, 0, 1);
        due("a fall of 999 is borne at first", deep.judge(0), 0);
        deep.step(0, 0, 0, 0, 2);
        due("one of 1000 is not", deep.judge(0), 3);
    }

    private static void bestOpening() {
        promise = 30;
        GorgeDay x = with("lake 10 1000 50 10;gate 100 200;gate 0");
        due("least step, latest quarter", x.best(0, false), 104);
        due("nothing bars", x.best(0, true), 0);
        due("no flow", x.best(1, false), -1);
        due("the level bars", x.best(1, true), 1);
        thrown("best", INDEX, () -> x.best(2, false));
        thrown("best", INDEX, () -> x.best(-1, true));
        // STEP 1 makes a place wet that STEP 2 does not reach: QUARTER 10 lets 100 go at once, as the goal is near.
        GorgeDay y = with("lake 10 1000 90 10;gate 100 200;reach 10 0 0 0 0;place 0 10 0 5");
        due("the latest by which the harm is the least", y.best(0, false), 195 - 85);
        y.bounds(0, 999, 4);
        due("none bears so little harm", y.best(0, false), -1);
        // From quarters 11 to 95 on the level bars (85 of each STEP), else the harm.
        due("what most are judged", y.best(0, true), 1);
        tape(y, "lake 10 1000 90 60").gorge();
        due("from 61 on the level bars (35), else the harm (61)", y.best(0, true), 4);
        tape(y, "lake 10 1000 90 47").gorge();
        due("48 and 48: the least", y.best(0, true), 1);
        tape(y, "lake 10 1000 9999 95").gorge();
        due("water in the last quarter alone is not above DRY by STEP 1", y.best(0, false), 195);
        y.person(0, 0, 95, 0, 0, 99);
        y.bounds(0, 999, 99999);
        due("fear", y.best(0, false), 195);
    }

    private static void whomToCall() {
        promise = 31;
        GorgeDay x = valley();
        tape(x, "place 1 9 2 5;place 1 9 0 5").gorge();
        due("nobody there", x.whom(0, 0), -1);
        x.person(2, 0, 9, 50, 0, 99);
        due("one", x.whom(0, 1), 2);
        due("too late", x.whom(0, 2), -1);
        x.person(1, 0, 9, 50, 0, 99);
        due("the least number", x.whom(0, 1), 1);
        x.person(3, 0, 9, 60, 0, 99);
        due("the least fear", x.whom(0, 1), 3);
        due("the least fear", x.whom(0, 3), 3);
        due("too late", x.whom(0, 4), -1);
        for (int i = 0; i < 4; i++) {
            x.call(3, 95);
        }
        due("not a 5th time", x.whom(0, 1), 1);
        x.call(1, 0);
        due("there it helps less now", x.whom(0, 1), 2);
        thrown("whom", INDEX, () -> x.whom(1, 0));
        thrown("whom", INDEX, () -> x.whom(0, 96));
        thrown("whom", INDEX, () -> x.whom(0, -1));
    }

    private static void wardens() {
        promise = 32;
        // Three dry places in three reaches; all are wet from quarter 20 on.
        GorgeDay x = with("lake 1 1000 0 95;gate 900;reach 1 100 100 0 9;reach 1 0 0 0 9;reach 1 0 0 0 9;rain 20 20 9;"
                + "place 0 10 4 1;place 1 10 4 1;place 2 10 4 1");
        x.open();
        x.person(0, 0, 40, 100, 0, 99);
        x.person(1, 0, 40, 100, 0, 99);
        x.person(2, 0, 40, 100, 0, 99);
        due("fear of all", x.fear(0), 300000000);
        due("nobody is called", x.warden(0, 0, 0, 0, 0, -1), 300000000);
        due("no place", x.warden(0, 0, 0, 0, 0, 0), -1);
        due("all at once", x.warden(0, 0, 16, 0, 7, -1), 0);
        due("too late", x.warden(0, 0, 17, 0, 7, -1), 300000000);
        due("one after another", x.warden(0, 0, 14, 1, 7, -1), 0);
        due("the last one is late", x.warden(0, 0, 15, 1, 7, -1), 100000000);
        due("order", x.warden(0, 0, 15, 1, 7, 0), 0);
        due("order", x.warden(0, 0, 15, 1, 7, 2), 2);
        due("from below", x.warden(0, 2, 14, 1, 7, -1), 0);
        due("from below: order", x.warden(0, 2, 14, 1, 7, 0), 2);
        due("from below: order", x.warden(0, 2, 14, 1, 7, 1), 1);
        due("from below: order", x.warden(0, 2, 14, 1, 7, 2), 0);
        due("in the middle", x.warden(0, 1, 14, 1, 7, -1), 100000000);
        due("the first order by numbers", x.warden(0, 1, 14, 1, 7, 0), 0);
        due("the first order by numbers", x.warden(0, 1, 14, 1, 7, 1), 1);
        due("behind the last", x.warden(0, 1, 14, 1, 7, 3), -1);
        due("bits of none count for nothing", x.warden(0, 0, 16, 0, -1, -1), 0);
        due("behind the day", x.warden(0, 0, 95, 9, 7, 2), 2);
        x.call(2, 90);
        x.call(2, 90);
        x.call(2, 90);
        x.call(2, 90);
        due("not a 5th time", x.warden(0, 0, 0, 0, 7, -1), 100000000);
        due("no call is kept", x.count(6), 4);
        tape(x, times("place 2 999 0 0", 4)).gorge();
        due("6 places", x.warden(0, 0, 0, 0, 63, -1), 100000000);
        thrown("7 places", ARGUMENT, () -> x.warden(0, 0, 0, 0, 127, 0));
        thrown("pace", ARGUMENT, () -> x.warden(0, 0, 0, -1, 0, 0));
        thrown("pace", ARGUMENT, () -> x.warden(0, 0, 0, 10, 0, 0));
        thrown("k", ARGUMENT, () -> x.warden(0, 0, 0, 0, 0, -2));
        due("k", x.warden(0, 0, 0, 0, 1, FAR), -1);
        thrown("opening", INDEX, () -> x.warden(1, 0, 0, 0, 0, 0));
        thrown("reach", INDEX, () -> x.warden(0, 3, 0, 10, 0, 0));
        thrown("quarter", INDEX, () -> x.warden(0, 0, 96, 0, 0, -2));
    }

    private static void warning() {
        promise = 33;
        // The reach runs dry at once. PLACE 0 is wet above 50; the great flow comes in quarter 10.
        GorgeDay x = with("lake 1 1000 0 95;gate 30 40 900;reach 1 100 100 0 0;place 0 50 2 1");
        x.open();
        due("never open", x.warns(0, 0), -1);
        x.step(0, 0, 10, 95, 3);
        due("nobody there", x.warns(0, 0), -1);
        x.person(0, 0, 40, 0, 0, 30);
        due("fear", x.fear(0), 100000000);
        due("the least step, the latest quarter", x.warns(0, 0), 108);
        x.person(0, 0, 40, 0, 0, 35);
        // A wave of 40 warns both; one of 900 would catch them.
        due("the least fear", x.warns(0, 0), 208);
        x.person(0, 0, 40, 0, 0, 99);
        // One stays by any small wave; by a great one in quarter 0 it is wet when they come, and nobody is caught.
        due("wet in quarter FROM", x.warns(0, 0), 300);
        due("the opening stays", x.stepAt(0, 0, 8), 0);
        x.open();
        x.step(1, 0, 0, 95, 3);
        due("open from quarter 0 on", x.warns(1, 0), -1);
        x.step(1, 0, 0, 0, 1);
        x.step(1, 0, 1, 9, 0);
        due("open in quarter 0 already", x.warns(1, 0), -1);
        thrown("warns", INDEX, () -> x.warns(2, 0));
        thrown("warns", INDEX, () -> x.warns(0, 1));
    }

    private static void bearing() {
        promise = 34;
        GorgeDay x = with("reach 1 0 0 0 1;place 0 480 0 5");
        x.open();
        x.bounds(0, 999, 4);
        // 96 quarters of rain: 5 of it make it 480 deep, 6 of it 576.
        due("so much more", x.bears(0), 5);
        tape(x, "rain 0 95 2").gorge();
        due("so much more", x.bears(0), 3);
        tape(x, "rain 0 95 5").gorge();
        due("no more", x.bears(0), 0);
        tape(x, "rain 0 95 6").gorge();
        due("not even this", x.bears(0), -1);
        x.bounds(0, 999, 5);
        due("all", x.bears(0), 9);
        thrown("bears", INDEX, () -> x.bears(1));
    }

    private static void closings() {
        promise = 35;
        // The reach is as deep as what was let go; the lake is so wide that its level stays.
        GorgeDay x = with("lake 1 999999 0 95;gate 10 20 30;reach 1 50 50 0 0;into 0 95 30");
        x.open();
        x.step(0, 0, 0, 95, 3);
        due("any fall is borne", x.closing(0, 0, 50), 1);
        x.bounds(0, 29, 0);
        // One STEP each QUARTER: 60 deep, then 50 (20 come), 35 (10 come), 18 (none come), 9: falls up to 17.
        due("1 STEP each QUARTER", x.closing(0, 0, 50), 1);
        x.bounds(0, 17, 0);
        due("1 STEP each QUARTER", x.closing(0, 0, 50), 1);
        x.bounds(0, 16, 0);
        // One each 2 QUARTERS: 50, 45, 33, 27, 14, 7: falls up to 13.
        due("1 STEP each 2 QUARTERS", x.closing(0, 0, 50), 2);
        x.bounds(0, 4, 0);
        due("none", x.closing(0, 0, 50), -1);
        due("the opening stays", x.stepAt(0, 0, 60), 3);
        x.bounds(0, 0, 0);
        due("closed all day", x.closing(0, 0, 0), 1);
        x.step(0, 0, 0, 10, 0);
        due("0 ahead of it", x.closing(0, 0, 5), 1);
        GorgeDay y = with("lake 1 999999 0 95;gate 100 200 300 400 500 600;reach 1 10 10 0 0;into 0 95 600");
        y.open();
        y.step(0, 0, 0, 95, 6);
        y.open();
        int slowest = 0;
        boolean none = false;
        for (int bound = 300; bound >= 100; bound--) {
            y.bounds(0, bound, 0);
            int least = -1;
            for (int each = 12; each >= 1; each--) {
                y.step(1, 0, 0, 95, 6);
                y.slow(1, 0, 25, 0, each);
                least = y.most(1, 0, true, false) <= bound ? each : least;
            }
            due("closing by a fall of " + bound, y.closing(0, 0, 25), least);
            slowest = Math.max(slowest, least);
            none |= least == -1;
        }
        due("the slowest was needed", slowest, 12);
        due("and was not slow enough", none, true);
        thrown("closing", INDEX, () -> x.closing(1, 0, 0));
        thrown("closing", INDEX, () -> x.closing(0, 1, 0));
        thrown("closing", INDEX, () -> x.closing(0, 0, 96));
    }

    private static void powers() {
        promise = 36;
        GorgeDay x = valley();
        thrown("turbine", ARGUMENT, () -> x.turbine(-1));
        thrown("turbine", ARGUMENT, () -> x.turbine(10000));
        tape(x, "price 0 95 1;price 1 2 99").gorge();
        promise = 37;
        due("no turbine", x.power(0), 0);
        x.turbine(85);
        due("turbine", x.count(11), 85);
        long sum = 0;
        for (int q = 0; q < 96; q++) {
            sum += Math.min(85, x.flow(0, q, false)) * (q == 1 || q == 2 ? 99L : 1L);
        }
        due("power", x.power(0), sum);
        x.turbine(9999);
        x.step(0, 0, 4, 95, 0);
        due("power", x.power(0), 100 + 90 * 99 + 81 * 99 + 72);
        thrown("power", INDEX, () -> x.power(1));
    }

    private static void hourPlans() {
        promise = 38;
        GorgeDay x = with("gate 10 20;price 3 3 5;price 6 7 4;price 94 95 7");
        x.turbine(15);
        GorgeDay first = with("gate 1;price 0 0 9");
        first.turbine(1);
        due("the price of quarter 0", first.hours(0, 1, 0, 2, 2, false), 9);
        due("FLOW as it is, the dearest", x.hours(0, 1, 0, 1, 1, false), 70);
        due("the least quarter", x.hours(0, 1, 0, 1, 1, true), 94);
        due("TURBINE at most", x.hours(0, 2, 0, 1, 1, false), 105);
        due("a STEP that it has not is its last", x.hours(0, 6, 0, 1, 1, false), 105);
        due("STEP 0", x.hours(0, 0, 0, 1, 1, false), 0);
        due("STEP 0", x.hours(0, 0, 9, 1, 1, true), 9);
        due("three", x.hours(0, 1, 0, 3, 1, false), 190);
        due("begins", x.hours(0, 1, 0, 3, 1, true), 3);
        due("in pieces of 2 at least", x.hours(0, 1, 0, 3, 2, false), 140);
        due("begins", x.hours(0, 1, 0, 3, 2, true), 93);
        due("two pieces of 2", x.hours(0, 1, 0, 4, 2, false), 220);
        due("begins", x.hours(0, 1, 0, 4, 2, true), 6);
        due("6 in pieces of 4 at least are one piece", x.hours(0, 1, 0, 6, 4, false), 140);
        due("begins", x.hours(0, 1, 0, 6, 4, true), 90);
        due("5 in one: 3 to 7", x.hours(0, 1, 0, 5, 5, false), 140);
        due("or 91 to 95, so the least is taken", x.hours(0, 1, 0, 5, 5, true), 91);
        due("from 95 on", x.hours(0, 1, 95, 1, 1, false), 70);
        due("too many", x.hours(0, 1, 95, 2, 1, false), -1);
        due("too short", x.hours(0, 1, 0, 3, 4, false), -1);
        due("too short", x.hours(0, 1, 0, 3, 4, true), -1);
        due("all", x.hours(0, 1, 0, 96, 96, false), 270);
        due("all", x.hours(0, 1, 0, 96, 96, true), 0);
        due("none", x.hours(0, 1, 0, 0, 96, false), 0);
        due("none", x.hours(0, 1, 0, 0, 96, true), -1);
        thrown("hours", INDEX, () -> x.hours(1, 9, 0, 0, 1, false));
        thrown("hours", INDEX, () -> x.hours(0, 1, 96, 0, 0, false));
        thrown("hours", ARGUMENT, () -> x.hours(0, -1, 0, 0, 1, false));
        thrown("hours", ARGUMENT, () -> x.hours(0, 7, 0, 0, 1, false));
        thrown("hours", ARGUMENT, () -> x.hours(0, 1, 0, -1, 1, false));
        thrown("hours", ARGUMENT, () -> x.hours(0, 1, 0, 97, 1, false));
        thrown("hours", ARGUMENT, () -> x.hours(0, 1, 0, 1, 0, false));
        thrown("hours", ARGUMENT, () -> x.hours(0, 1, 0, 1, 97, false));
    }

    private static void following() {
        promise = 39;
        GorgeDay x = with("lake 10 1000 50 10;gate 100 200;gate 50");
        thrown("follow", INDEX, () -> x.follow(0));
        ruleOf(x, "open 0 2 if quarter>2 and quarter<5;open 0 1 if quarter<7;shut 0 if quarter>8;open 3 1;open 1 4 if gate 0>1");
        due("follow", x.follow(0), 0);
        int[] steps = {1, 1, 1, 2, 2, 1, 1, 1, 1, 0, 0};
        int[] second = {0, 0, 0, 0, 4, 4, 4, 4, 4, 4, 4};
        for (int q = 0; q < steps.length; q++) {
            due("gate 0 in " + q, x.stepAt(0, 0, q), steps[q]);
            due("gate 1 in " + q, x.stepAt(0, 1, q), second[q]);
        }
        due("the end", x.stepAt(0, 0, 95), 0);
        tape(x, "gate 1;gate 1").gorge();
        due("a gate told later is closed", x.stepAt(0, 3, 50), 0);
        due("follow", x.follow(0), 1);
        due("now it is open", x.stepAt(1, 3, 0), 1);
        for (int i = 0; i < 4; i++) {
            x.open();
        }
        thrown("a 7th", ROOM, () -> x.follow(0));
        thrown("of none", INDEX, () -> x.follow(1));
        thrown("of none", INDEX, () -> x.follow(-1));
        promise = 40;
        due("keeps", x.keeps(0), x.judge(1));
        due("keeps nothing", x.count(4), 6);
        ruleOf(x, "");
        due("closed: level", x.keeps(1), 1);
        ruleOf(x, "open 0 1");
        due("kept", x.keeps(2), 0);
        thrown("keeps", INDEX, () -> x.keeps(3));
        thrown("keeps", INDEX, () -> x.keeps(-1));
    }

    private static int firstStep(GorgeDay x, String condition, int quarter) {
        x.image();
        ruleOf(x, "shut 0 if not(" + condition + ");open 0 1");
        int o = x.follow(0);
        int step = x.stepAt(o, 0, quarter);
        x.back();
        return step;
    }

    private static void ruleParts() {
        promise = 39;
        GorgeDay x = with("lake 10 1000 50 10;gate 100;reach 10 50 50 0 0;place 0 4 0 0;rain 7 7 5");
        due("level at first", firstStep(x, "level>99", 0), 1);
        due("level at first", firstStep(x, "level>100", 0), 0);
        due("level behind the quarter ahead", firstStep(x, "level<91 or quarter<1", 1), 1);
        due("level behind the quarter ahead", firstStep(x, "level<90 or quarter<1", 1), 0);
        due("depth at first", firstStep(x, "depth 0<1", 0), 1);
        due("depth behind the quarter ahead", firstStep(x, "depth 0>9 or quarter<1", 1), 1);
        due("wet at first", firstStep(x, "wet 0", 0), 0);
        due("wet behind the quarter ahead", firstStep(x, "wet 0 or quarter<1", 1), 1);
        due("gate at first", firstStep(x, "gate 0<1", 0), 1);
        due("gate in the quarter ahead", firstStep(x, "gate 0<1", 1), 0);
        due("gate in the quarter ahead", firstStep(x, "gate 0<1", 2), 1);
        due("rain of this one", firstStep(x, "rain>4", 7), 1);
        due("rain of this one", firstStep(x, "rain>4", 8), 0);
        due("goal", firstStep(x, "goal<51 and goal>49", 9), 1);
        due("no reach", firstStep(x, "depth 1<1 and depth 7<1", 9), 1);
        due("no gate", firstStep(x, "gate 1<1 and gate 3<1", 9), 1);
        due("no place", firstStep(x, "wet 1 or wet 11", 9), 0);
        due("sums", firstStep(x, "quarter+1+goal>59", 9), 1);
        due("sums", firstStep(x, "60>quarter+1+goal", 9), 0);
        due("and binds more than or", firstStep(x, "1<2 or 1<2 and 2<1", 9), 1);
        due("and binds more than or", firstStep(x, "2<1 and 1<2 or 1<2", 9), 1);
        due("in brackets", firstStep(x, "(1<2 or 1<2)and 2<1", 9), 0);
        due("not binds most", firstStep(x, "not 2<1 and 2<1", 9), 0);
        due("not not", firstStep(x, "not not 2<1", 9), 0);
    }

    private static void logs() {
        promise = 41;
        GorgeDay x = valley();
        x.open();
        thrown("log", INDEX, () -> x.log(2, 0, true));
        thrown("log", INDEX, () -> x.log(0, 96, true));
        thrown("log", INDEX, () -> x.log(-1, 0, true));
        due("nothing told", x.like(0), 0);
        due("log", x.log(1, 3, true), 1);
        due("log", x.log(1, 2, true), 2);
        due("log", x.log(0, 95, false), 3);
        promise = 42;
        due("like", x.like(0), 1 + (x.wet(0, 0, 95) ? 0 : 1));
        due("like", x.like(1), 1);
        thrown("like", INDEX, () -> x.like(2));
        promise = 43;
        due("likest", x.likest(), 0);
        x.log(0, 0, false);
        x.log(0, 0, false);
        due("likest", x.likest(), 1);
        x.copy(1);
        due("the least number", x.likest(), 1);
        due("without openings", new GorgeDay().likest(), -1);
        promise = 41;
        for (int i = 6; i <= 16; i++) {
            due("log", x.log(0, 0, true), i);
        }
        thrown("a 17th", ROOM, () -> x.log(0, 0, true));
        thrown("a 17th of none", INDEX, () -> x.log(9, 0, true));
        due("logs", x.count(8), 16);
    }

    private static void nearness() {
        promise = 44;
        // Wet in quarters 20 and 40 alone.
        GorgeDay x = with("reach 1 100 100 0 9;place 0 5 3 0;rain 20 20 1;rain 40 40 1;place 0 9 0 0");
        x.open();
        int[][] from = {{0, 10, 10}, {15, 25, 0}, {21, 22, 1}, {30, 30, 10}, {33, 37, 3}, {41, 95, 1}, {95, 95, 55}, {20, 20, 0}};
        for (int i = 0; i < from.length; i++) {
            x.person(0, from[i][0], from[i][1], 0, 0, 1);
            due("near " + i, x.near(0, i), from[i][2]);
        }
        x.person(1, 0, 95, 0, 0, 1);
        due("never", x.near(0, from.length), 99);
        GorgeDay early = with("reach 1 100 100 0 9;place 0 1 0 3;rain 0 0 1");
        early.open();
        early.person(0, 4, 9, 0, 0, 1);
        due("wet in quarter 0 alone", early.near(0, 0), 4);
        thrown("near", INDEX, () -> x.near(1, 0));
        thrown("near", INDEX, () -> x.near(0, 9));
    }

    private static void plays() {
        promise = 45;
        GorgeDay x = valley();
        x.person(0, 0, 9, 100, 0, 99);
        x.person(1, 0, 9, 50, 0, 99);
        x.person(1, 0, 9, 50, 0, 2);
        x.person(1, 0, 9, 1, 0, 99);
        x.person(1, 0, 9, 100, 0, 99);
        due("nobody calls", x.play(0, 5), 2 + 8 + 16);
        x.call(1, 1);
        x.call(0, 1);
        x.call(1, 2);
        x.call(1, 0);
        for (int seed : new int[] {0, 1, 2, 3, 77, -1, FAR, LOW}) {
            int s = seed;
            int bits = 0;
            for (int i = 1; i <= 4; i++) {
                // PERSON 2 goes and draws nothing; two CALLS are in time for each of the others.
                int hears = i == 1 ? 50 : i == 3 ? 1 : 100;
                boolean heard = false;
                for (int c = 0; c < 2 && i != 2; c++) {
                    s = s * 1103515245 + 12345;
                    heard |= (s >>> 16 & 0x7fff) % 100 < hears;
                }
                bits |= heard || i == 2 ? 0 : 1 << i;
            }
            due("play " + seed, x.play(0, seed), bits);
        }
        // By SEED 0 the first draw is of 12345: bits 16 to 30 are 0.
        due("play by hand", x.play(0, 0) & 2, 0);
        for (int seed = 0; seed < 300; seed++) {
            int draw = (seed * 1103515245 + 12345 >>> 16 & 0x7fff) % 100;
            GorgeDay y = valley();
            y.person(1, 0, 9, draw, 0, 99);
            y.call(1, 1);
            due("HEARS is no more than the draw", y.play(0, seed), 1);
            GorgeDay z = valley();
            z.person(1, 0, 9, draw + 1, 0, 99);
            z.call(1, 1);
            due("HEARS is more than the draw", z.play(0, seed), 0);
        }
        x.open();
        due("no water", x.play(1, 9), 0);
        thrown("play", INDEX, () -> x.play(2, 0));
    }

    private static void images() {
        promise = 47;
        GorgeDay x = valley();
        due("no image", x.back(), false);
        promise = 46;
        x.person(1, 0, 5, 50, 0, 99);
        x.call(1, 1);
        x.bounds(50, 999, 99999);
        x.turbine(7);
        x.log(0, 0, true);
        ruleOf(x, "open 0 1");
        x.image();
        due("judge", x.judge(0), 0);
        tape(x, "lake 10 5000 1 1;gate 9;reach 1 1 1 1 1;place 0 0 0 0;into 0 95 5;rain 0 95 9;price 0 95 9").gorge();
        x.step(0, 0, 0, 95, 2);
        x.open();
        x.person(0, 0, 5, 50, 0, 99);
        x.call(0, 1);
        x.bounds(0, 0, 0);
        x.turbine(9);
        x.log(1, 1, true);
        ruleOf(x, "shut 0");
        tape(x, "gate 3");
        promise = 47;
        due("back", x.back(), true);
        int[] due = {1, 1, 2, 2, 1, 1, 1, 1, 1, 100, 0, 7};
        for (int what = 0; what < due.length; what++) {
            due("count(" + what + ")", x.count(what), due[what]);
        }
        due("steps", x.stepAt(0, 0, 5), 1);
        due("judge", x.judge(0), 0);
        due("water", x.water(0, 0, 2), 243);
        due("odds", x.odds(0, 0), 50000000);
        due("like", x.like(0), 1);
        due("keeps", x.keeps(0), 0);
        due("the tape stays", x.end(6), true);
        due("and is right", x.gorge(), 2);
        due("gates", x.count(1), 2);
        x.step(0, 0, 0, 95, 0);
        x.calls();
        due("back again", x.back(), true);
        due("calls", x.count(6), 1);
        due("steps", x.stepAt(0, 0, 5), 1);
        x.image();
        x.calls();
        x.image();
        x.call(0, 0);
        x.back();
        due("the latest image", x.count(6), 0);
    }

    private static void counts() {
        promise = 48;
        GorgeDay x = with(VALLEY, "into 3 5 7");
        x.open();
        x.open();
        x.open();
        x.person(0, 0, 0, 0, 0, 1);
        x.call(0, 0);
        x.call(0, 0);
        ruleOf(x, "");
        x.log(0, 0, false);
        x.turbine(9999);
        int[] due = {2, 1, 2, 2, 3, 1, 2, 1, 1, 100, 21, 9999};
        for (int what = 0; what < due.length; what++) {
            due("count(" + what + ")", x.count(what), due[what]);
        }
        due("count(12)", x.count(12), -1);
        due("count(-1)", x.count(-1), -1);
        due("count(MAX)", x.count(FAR), -1);
        due("count(MIN)", x.count(LOW), -1);
    }
}
