/** Promises 1 to 6: a new object, the TAPE, and texts, read byte by byte. */
final class EdgesOfTexts {
    private EdgesOfTexts() {
    }

    static void run() {
        newObject();
        tapeFilled();
        tapeCut();
        roomForTexts();
        linesOfGorge();
        digits();
        wordsAndBlanks();
        lake();
        rows();
        gates();
        reaches();
        places();
        wrongBytes();
        nothingStays();
        roomForRules();
        linesOfRule();
        numbersOfRule();
        depthOfRule();
        grammarOfRule();
        likewiseOfRules();
        faults();
    }

    private static void newObject() {
        Edges.edge(1, "A lake of no water; no GATES, REACHES, PLACES, PEOPLE, OPENINGS, RULES.");
        GorgeDay x = new GorgeDay();
        for (int what = 0; what <= 11; what++) {
            Edges.due("count(" + what + ")", x.count(what), 0);
        }
        Edges.due("calls", x.calls(), 0);
        Edges.throwsThat("OPENING 0", Edges.INDEX, x, y -> y.level(0, 0));
        Edges.throwsThat("GATE 0", Edges.INDEX, x, y -> y.best(0, false));
        Edges.throwsThat("PLACE 0", Edges.INDEX, x, y -> y.call(0, 0));
        Edges.throwsThat("RULE 0", Edges.INDEX, x, y -> y.keeps(0));
        x.open();
        Edges.throwsThat("REACH 0", Edges.INDEX, x, y -> y.depth(0, 0, 0));
        Edges.throwsThat("PERSON 0", Edges.INDEX, x, y -> y.odds(0, 0));
        Edges.due("the lake", x.water(0, -1, 95), 0);
        Edges.due("judge", x.judge(0), 0);

        Edges.edge(1, "BY a QUARTER; 1, 0, 0, 95 at first.");
        Edges.tape(x, "into 94 94 7").gorge();
        Edges.due("AREA 1", x.level(0, 94), 7);
        Edges.due("WATER 0", x.level(0, 93), 0);
        Edges.due("GOAL 0: 7 is above it in 95", x.judge(0), 1);
        GorgeDay early = Edges.opened("gate 1;into 0 0 1");
        Edges.due("GOAL 0: 1 is above it", early.judge(0), 1);
        GorgeDay last = Edges.opened("into 95 95 1");
        Edges.due("BY 95", last.judge(0), 1);
        Edges.due("GOAL 0 in QUARTER 0", last.down(0), 0);
    }

    // ---- the TAPE

    private static int blanks(GorgeDay x) {
        return x.feed(0x20202020, 0x20202020, 0x20202020, 0x20202020, 0x20202020);
    }

    private static void tapeFilled() {
        Edges.edge(2, "how many it has; NONE, and none come, if it would have more than 400.");
        GorgeDay x = new GorgeDay();
        for (int i = 1; i <= 20; i++) {
            Edges.due("feed " + i, blanks(x), 20 * i);
        }
        Edges.due("the 21st feed", x.feed(-1, -1, -1, -1, -1), Edges.NONE);
        Edges.due("byte 401", x.end(401), false);
        Edges.due("byte 400", x.end(400), true);
        Edges.due("400 blanks and nothing behind them", x.gorge(), 1);
        for (int i = 1; i <= 20; i++) {
            blanks(x);
        }
        x.end(381);
        Edges.due("20 behind 381", x.feed(-1, -1, -1, -1, -1), Edges.NONE);
        Edges.due("byte 382", x.end(382), false);
        Edges.due("byte 381", x.end(381), true);
        Edges.due("381 blanks and nothing behind them", x.gorge(), 2);
        for (int i = 1; i <= 20; i++) {
            blanks(x);
        }
        x.end(380);
        Edges.due("20 behind 380", blanks(x), 400);
        Edges.due("400 blanks", x.gorge(), 3);

        Edges.edge(2, "Twenty bytes come behind the TAPE, of each number the highest first");
        x.feed(0x67617465, 0x20372038, 0x3b676174, 0x65203920, 0x3b20FF01);
        x.end(16);
        Edges.due("a text of bytes by their order", x.gorge(), 4);
        Edges.due("two gates", x.count(1), 2);
        blanks(x);
        x.feed(0xFF202020, 0, 0, 0, 0);
        Edges.throwsThat("the twenty come behind those that are there", Edges.ARGUMENT, x, GorgeDay::gorge);
        Edges.due("a byte of 255 at 20", x.fault(), 20);
        blanks(x);
        x.feed(0x20202080, 0, 0, 0, 0);
        Edges.throwsThat("a byte of 128", Edges.ARGUMENT, x, GorgeDay::gorge);
        Edges.due("the lowest byte of a number is its last", x.fault(), 23);
    }

    private static void tapeCut() {
        Edges.edge(3, "true; false, and nothing happens, if it has fewer, or n is below 0.");
        GorgeDay x = new GorgeDay();
        Edges.due("0 of an empty one", x.end(0), true);
        Edges.due("1 of an empty one", x.end(1), false);
        Edges.tape(x, "gate 1 2 3");
        Edges.due("below 0", x.end(-1), false);
        Edges.due("the least n", x.end(Edges.LOW), false);
        Edges.due("it has fewer", x.end(11), false);
        Edges.due("the greatest n", x.end(Edges.FAR), false);
        Edges.due("it has all still", x.end(10), true);
        Edges.due("and it is right", x.gorge(), 1);

        Edges.edge(3, "The TAPE has its first n bytes alone: true");
        Edges.tape(x, "gate 1 ;;");
        Edges.due("the first 7", x.end(7), true);
        Edges.due("byte 8 is gone", x.end(8), false);
        Edges.due("the first 6", x.end(6), true);
        Edges.due("and they are right", x.gorge(), 2);
        Edges.tape(x, "gate 1");
        Edges.due("none at all", x.end(0), true);
        blanks(x);
        Edges.due("what is fed then comes to the begin", x.end(20), true);
        Edges.due("and it has 20", x.end(21), false);
        Edges.due("no LINE", x.gorge(), 3);
        Edges.due("gates", x.count(1), 2);
    }

    // ---- THE GORGE

    private static void roomForTexts() {
        Edges.edge(4,
                "THE GORGE is told in texts (at most 12, one behind another)",
                "UnsupportedOperationException: there are 12.");
        GorgeDay x = new GorgeDay();
        for (int i = 1; i <= 12; i++) {
            Edges.due("text " + i, Edges.tape(x, i == 12 ? "gate 12" : "").gorge(), i);
        }
        Edges.throwsThat("text 13", Edges.ROOM, Edges.tape(x, "gate 13"), GorgeDay::gorge);
        Edges.due("texts", x.count(0), 12);
        Edges.due("the 12th one counts, the 13th does not", x.count(1), 1);
        Edges.throwsThat("an empty one", Edges.ROOM, Edges.tape(x, ""), GorgeDay::gorge);
        Edges.unchanged("a 13th text", EdgesOfTexts::fullOfTexts, y -> Edges.tape(y, "gate 13;lake 1 1 1 1;rain 0 95 9").gorge());

        Edges.edge(4, "Uses the TAPE up: a text of THE GORGE: how many there are.");
        GorgeDay y = Edges.tape(new GorgeDay(), "gate 1");
        Edges.due("a right one", y.gorge(), 1);
        Edges.due("used up by a right one", y.end(1), false);
        Edges.throwsThat("a wrong one", Edges.ARGUMENT, Edges.tape(y, "gate"), GorgeDay::gorge);
        Edges.due("used up by a wrong one", y.end(1), false);
        Edges.throwsThat("a 13th one", Edges.ROOM, Edges.tape(x, "gate 13"), GorgeDay::gorge);
        Edges.due("used up by one that is refused", x.end(1), false);
    }

    private static Village fullOfTexts() {
        return Village.withoutTape(x -> {
            while (x.count(0) < 12) {
                Edges.tape(x, "").gorge();
            }
        });
    }

    private static void linesOfGorge() {
        Edges.edge(4, "LINE { ; LINE }, at most 12");
        Edges.rightGorge("rain 0 0 1");
        Edges.rightGorge(Edges.times("rain 0 0 1", 12));
        Edges.wrongGorge(Edges.times("rain 0 0 1", 13), 132);
        Edges.wrongGorge(Edges.times("rain 0 0 1", 12) + "   ;  gate 1", 137);
        Edges.wrongGorge(";", 0);
        Edges.wrongGorge("rain 0 0 1;", 11);
        Edges.wrongGorge("rain 0 0 1;;rain 0 0 1", 11);
        Edges.wrongGorge("rain 0 0 1 rain 0 0 1", 11);
        Edges.wrongGorge(";rain 0 0 1", 0);
        Edges.due("the 12th LINE counts", Edges.gorge(Edges.times("rain 0 0 1", 11) + ";gate 5").count(1), 1);

        Edges.edge(4, "A text that is empty, or blanks alone, has no LINE.");
        Edges.rightGorge("");
        Edges.rightGorge(" ");
        Edges.rightGorge(" ".repeat(400));
        Edges.wrongGorge(" ".repeat(399) + ";", 399);
    }

    private static void digits() {
        Edges.edge(4, "All numbers are of 1 to 6 digits.", "a number of more digits");
        Edges.rightGorge("gate 1");
        Edges.rightGorge("gate 000001");
        Edges.wrongGorge("gate 0000001", 5);
        Edges.wrongGorge("gate 0000000000000000000000000000001", 5);
        Edges.wrongGorge("gate 4294967297", 5);
        Edges.due("six digits", Edges.gorge("lake 000001 999999 000000 000095").count(9), 999999);
        Edges.wrongGorge("lake 1 0999999 0 0", 7);
        Edges.wrongGorge("rain 0 0 0000000", 9);
        Edges.due("zeros ahead", Edges.gorge("lake 000010 000100 0 0").count(9), 10);
    }

    private static void wordsAndBlanks() {
        Edges.edge(4,
                "Words are as long as a to z go on; between all there may be blanks (32), also ahead and "
                        + "behind.");
        Edges.rightGorge("lake1 2 3 4;gate5;reach1 1 1 1 1");
        Edges.rightGorge("   lake   1   2   3   4   ;   gate   5   ");
        Edges.wrongGorge("lakes 1 2 3 4", 0);
        Edges.wrongGorge("lak 1 2 3 4", 0);
        Edges.wrongGorge("la ke 1 2 3 4", 0);
        Edges.wrongGorge("gategate 1", 0);
        Edges.wrongGorge("gatez 1", 0);
        Edges.wrongGorge("gatea 1", 0);
        Edges.wrongGorge("gate{ 1", 4);
        Edges.wrongGorge("gate` 1", 4);
        Edges.wrongGorge("bate 1", 0);
        Edges.wrongGorge("gats 1", 0);
        Edges.wrongGorge("gat 1", 0);
        Edges.wrongGorge("gate {1", 5);
        Edges.wrongGorge("`gate 1", 0);
        Edges.wrongGorge("gate 1 :", 7);
        Edges.wrongGorge("gate 1 /", 7);
        Edges.wrongGorge("gatE 1", 0);
        Edges.wrongGorge("gate 1!", 6);
        Edges.wrongGorge("gate\0371", 4);
        Edges.wrongGorge("gate\t1", 4);
        Edges.wrongGorge("gate 1\n", 6);
        Edges.wrongGorge("gate 1\0", 6);
        Edges.wrongGorge("gate 1\240", 6);
        Edges.wrongGorge("zzzz 1", 0);
        Edges.wrongGorge("aaaa 1", 0);
        Edges.due("two numbers by a blank", flowsOf("gate 12 34", 2), 34);
        Edges.due("one number without", flowsOf("gate 1234", 2), 1234);
    }

    /** What a gate lets go at a STEP by a lake that is as high as at first. */
    private static int flowsOf(String gate, int step) {
        GorgeDay x = Edges.opened("lake 1 999999 0 0", gate);
        x.step(0, 0, 0, 0, step);
        return x.flow(0, 0, false);
    }

    private static void lake() {
        Edges.edge(4, "AREA (1 to 9999)");
        Edges.numberOfGorge("lake ", " 0 0 0", 1, 9999);
        Edges.due("the least", Edges.gorge("lake 1 999999 0 0").count(9), 999999);
        Edges.due("the most", Edges.gorge("lake 9999 999999 0 0").count(9), 100);

        Edges.edge(4, "WATER (0 to 999999)");
        Edges.numberOfGorge("lake 1 ", " 0 0", 0, 999999);
        Edges.due("none", Edges.opened("lake 1 0 0 0").water(0, -1, 0), 0);
        Edges.due("the most", Edges.opened("lake 1 999999 0 0").water(0, -1, 95), 999999);

        Edges.edge(4, "GOAL (0 to 9999)");
        Edges.numberOfGorge("lake 1 0 ", " 0", 0, 9999);
        Edges.due("the most is not passed by as much", Edges.opened("lake 1 9999 9999 0").judge(0), 0);
        Edges.due("but by one more", Edges.opened("lake 1 10000 9999 0").judge(0), 1);

        Edges.edge(4, "BY a QUARTER");
        Edges.numberOfGorge("lake 1 0 0 ", "", 0, 95);
        Edges.due("the first", Edges.opened("lake 1 0 0 0;into 1 1 5").judge(0), 0);
        Edges.due("the last", Edges.opened("lake 1 0 0 95;into 95 95 5").judge(0), 1);

        Edges.edge(4, "lake (the last one told counts)");
        Edges.due("of one text", Edges.gorge("lake 1 5 0 0;lake 1 7 0 0").count(9), 7);
        Edges.due("of two texts", Edges.gorge("lake 1 7 0 0", "lake 1 5 0 0").count(9), 5);
        Edges.due("another line behind it", Edges.gorge("lake 1 7 0 0", "gate 1").count(9), 7);
    }

    private static void rows() {
        Edges.edge(4, "(FROM not above TO)", "or a TO below its FROM");
        for (String word : new String[] {"into ", "rain ", "price "}) {
            int at = word.length();
            Edges.numberOfGorge(word, " 95 0", 0, 95);
            Edges.numberOfGorge(word + "95 ", " 0", 95, 95);
            Edges.numberOfGorge(word + "0 ", " 0", 0, 95);
            Edges.rightGorge(word + "40 40 0");
            Edges.wrongGorge(word + "40 39 0", at + 3);
            Edges.wrongGorge(word + "96 96 0", at);
            Edges.wrongGorge(word + "96 95 0", at);
        }

        Edges.edge(4, "INFLOW N (0 to 9999) in the QUARTERS FROM to TO");
        Edges.numberOfGorge("into 0 0 ", "", 0, 9999);
        Edges.due("one QUARTER", Edges.gorge("into 40 40 9999").count(10), 9999);
        Edges.due("all QUARTERS", Edges.gorge("into 0 95 9999").count(10), 96 * 9999);
        Edges.due("0 again", Edges.gorge("into 0 95 9", "into 0 95 0").count(10), 0);
        GorgeDay x = Edges.opened("into 3 5 7");
        Edges.due("ahead of FROM", x.water(0, -1, 2), 0);
        Edges.due("in FROM", x.water(0, -1, 3), 7);
        Edges.due("in TO", x.water(0, -1, 5), 21);
        Edges.due("behind TO", x.water(0, -1, 6), 21);

        Edges.edge(4, "rain, price likewise (0 to 9 each; 0 to 99 each); all 0 at first.");
        Edges.numberOfGorge("rain 0 0 ", "", 0, 9);
        Edges.numberOfGorge("price 0 0 ", "", 0, 99);
        GorgeDay y = Edges.opened("lake 1 1000 0 0;gate 1;reach 1 0 0 0 1");
        y.turbine(9999);
        y.step(0, 0, 0, 95, 1);
        Edges.due("no RAIN at first", y.water(0, 0, 95), 1000 - y.water(0, -1, 95));
        Edges.due("no PRICE at first", y.power(0), 0);
        Edges.due("no INFLOW at first", y.count(10), 0);
        GorgeDay z = Edges.opened("lake 1 1000 0 0;gate 1;reach 1 0 0 0 1;rain 3 5 9;price 0 0 99;price 95 95 1");
        Edges.due("RAIN ahead of FROM", z.water(0, 0, 2), 0);
        Edges.due("RAIN in FROM", z.water(0, 0, 3), 9);
        Edges.due("RAIN in TO and behind it", z.water(0, 0, 95), 27);
        z.turbine(9999);
        z.step(0, 0, 0, 0, 1);
        z.step(0, 0, 2, 2, 1);
        Edges.due("PRICE in FROM and TO alone", z.power(0), 99);

        Edges.edge(4, "from then on; rain, price likewise");
        Edges.due("the later one counts", Edges.gorge("into 0 10 5;into 5 20 3").count(10), 5 * 5 + 16 * 3);
    }

    private static void gates() {
        Edges.edge(4,
                "gate: one more GATE (at most 4, numbered from 0 on)",
                "or of a GATE, REACH or PLACE for which there is no room, the first word");
        Edges.due("the 4th", Edges.gorge(Edges.times("gate 1", 4)).count(1), 4);
        Edges.wrongGorge(Edges.times("gate 1", 5), 28);
        GorgeDay x = Edges.gorge(Edges.times("gate 1", 3), "gate 1");
        Edges.throwsThat("a 5th in a text of its own", Edges.ARGUMENT, Edges.tape(x, " gate 1"), GorgeDay::gorge);
        Edges.due("its first word", x.fault(), 1);
        Edges.throwsThat("a 5th that would be wrong itself", Edges.ARGUMENT, Edges.tape(x, "gate 10000"), GorgeDay::gorge);
        Edges.due("the first word still", x.fault(), 0);
        Edges.due("gates", x.count(1), 4);

        Edges.edge(4, "with 1 to 6 STEPS (from 1 on) of a FLOW each (0 to 9999); STEP 0: 0.");
        Edges.wrongGorge("gate", 4);
        Edges.wrongGorge("gate;gate 1", 4);
        Edges.rightGorge("gate 1");
        Edges.rightGorge("gate 1 2 3 4 5 6");
        Edges.wrongGorge("gate 1 2 3 4 5 6 7", 17);
        Edges.wrongGorge("gate 1 2 3 4 5 6 7;rain", 17);
        Edges.numberOfGorge("gate ", "", 0, 9999);
        Edges.numberOfGorge("gate 1 2 3 4 5 ", ";rain 0 0 0", 0, 9999);
        Edges.due("STEP 0", flowsOf("gate 9 9", 0), 0);
        Edges.due("STEP 1", flowsOf("gate 9999 0", 1), 9999);
        Edges.due("STEP 2", flowsOf("gate 9999 0", 2), 0);
        Edges.due("STEP 6", flowsOf("gate 1 2 3 4 5 6", 6), 6);
        GorgeDay all = Edges.opened("lake 1 999999 0 0", Edges.times("gate 1 2 3 4 5 6", 4));
        for (int gate = 0; gate < 4; gate++) {
            Edges.due("STEP 0 of all", all.flow(0, 0, false), 0);
            for (int step = 1; step <= 6; step++) {
                all.step(0, gate, 0, 0, step);
                Edges.due("GATE " + gate + " alone at STEP " + step, all.flow(0, 0, false), step);
            }
            all.step(0, gate, 0, 0, 0);
        }
    }

    private static void reaches() {
        Edges.edge(4, "reach: one more REACH (at most 8, numbered from 0 on, downwards)");
        Edges.due("the 8th", Edges.gorge(Edges.times("reach 1 0 0 0 0", 8)).count(2), 8);
        GorgeDay x = Edges.gorge(Edges.times("reach 1 0 0 0 0", 7));
        Edges.throwsThat("a 9th in one text", Edges.ARGUMENT, Edges.tape(x, Edges.times("reach 1 0 0 0 0", 2)), GorgeDay::gorge);
        Edges.due("its first word", x.fault(), 16);
        Edges.due("none of both stays", x.count(2), 7);
        Edges.due("the 8th alone", Edges.tape(x, "reach 1 0 0 0 0").gorge(), 2);
        Edges.throwsThat("a 9th", Edges.ARGUMENT, Edges.tape(x, "  reach 0 0 0 0 0"), GorgeDay::gorge);
        Edges.due("its first word", x.fault(), 2);

        Edges.edge(4, "WIDTH (1 to 999)");
        Edges.numberOfGorge("reach ", " 0 0 0 0", 1, 999);
        Edges.due("the least", depthOf("reach 1 0 0 0 1", 1), 1);
        Edges.due("the most", depthOf("reach 999 0 0 0 99;into 0 0 0", 1), 0);

        Edges.edge(4, "SLOW, QUICK (0 to 100 each)");
        Edges.numberOfGorge("reach 1 ", " 0 0 0", 0, 100);
        Edges.numberOfGorge("reach 1 0 ", " 0 0", 0, 100);
        Edges.due("SLOW 100: all goes", depthOf("reach 1 100 0 999 7", 2), 7);
        Edges.due("SLOW 0: all stays", depthOf("reach 1 0 100 999 7", 2), 14);
        Edges.due("QUICK 100: all goes", depthOf("reach 1 0 100 7 7", 2), 7);
        Edges.due("QUICK 0: all stays", depthOf("reach 1 100 0 7 7", 2), 14);

        Edges.edge(4, "TURN (0 to 999)");
        Edges.numberOfGorge("reach 1 0 0 ", " 0", 0, 999);
        Edges.due("TURN 0: always QUICK", depthOf("reach 9 0 100 0 1", 9), 0);
        Edges.due("TURN 999", depthOf("reach 1 0 100 999 99", 12), 99);
        Edges.due("ahead of it", depthOf("reach 1 0 100 999 99", 11), 99 * 11);

        Edges.edge(4, "BROOK (0 to 99)");
        Edges.numberOfGorge("reach 1 0 0 0 ", "", 0, 99);
        Edges.due("the least", depthOf("reach 1 0 0 0 0", 9), 0);
        Edges.due("the most", depthOf("reach 1 0 0 0 99", 9), 99 * 9);
    }

    /** How deep the reach is behind so many QUARTERS, with a rain of 1 in each. */
    private static int depthOf(String reach, int quarters) {
        return Edges.opened("rain 0 95 1", reach).depth(0, 0, quarters - 1);
    }

    private static void places() {
        Edges.edge(4,
                "place: one more PLACE (at most 12, numbered from 0 on) at a REACH that is there by then",
                "or that tells no REACH");
        GorgeDay x = Edges.gorge("reach 1 0 0 0 0;" + Edges.times("place 0 0 0 0", 11));
        Edges.throwsThat("a 13th in one text", Edges.ARGUMENT, Edges.tape(x, Edges.times("place 0 0 0 0", 2)), GorgeDay::gorge);
        Edges.due("its first word", x.fault(), 14);
        Edges.due("none of both stays", x.count(3), 11);
        Edges.due("the 12th", Edges.tape(x, "place 0 0 0 0").gorge(), 2);
        Edges.throwsThat("a 13th", Edges.ARGUMENT, Edges.tape(x, "place 9 0 0 0"), GorgeDay::gorge);
        Edges.due("its first word", x.fault(), 0);
        Edges.due("places", x.count(3), 12);
        GorgeDay y = new GorgeDay();
        Edges.throwsThat("no REACH at all", Edges.ARGUMENT, Edges.tape(y, "place 0 0 0 0"), GorgeDay::gorge);
        Edges.due("its number", y.fault(), 6);
        Edges.throwsThat("a REACH told behind it", Edges.ARGUMENT, Edges.tape(y, "place 0 0 0 0;reach 1 0 0 0 0"), GorgeDay::gorge);
        Edges.due("its number", y.fault(), 6);
        Edges.due("a REACH told ahead of it in the text", Edges.tape(y, "reach 1 0 0 0 0;place 0 0 0 0").gorge(), 1);
        Edges.due("a REACH of an earlier text", Edges.tape(y, "place 0 0 0 0").gorge(), 2);
        Edges.throwsThat("one behind the last", Edges.ARGUMENT, Edges.tape(y, "place 1 0 0 0"), GorgeDay::gorge);
        Edges.due("its number", y.fault(), 6);
        GorgeDay z = Edges.gorge(Edges.times("reach 1 0 0 0 0", 8));
        Edges.throwsThat("REACH 8 of 8", Edges.ARGUMENT, Edges.tape(z, "place 8 0 0 0"), GorgeDay::gorge);
        Edges.due("REACH 7 of 8", Edges.tape(z, "place 7 0 0 0").gorge(), 2);
        Edges.wrongGorge("place 0000000 0 0 0", 6);
        Edges.wrongGorge("place -1 0 0 0", 6);
        Edges.wrongGorge("place 999999 0 0 0", 6);
        Edges.rightGorge("place 000000 0 0 0");

        Edges.edge(4, "DRY (0 to 999), OFF (0 to 12), HARM (0 to 999).");
        Edges.numberOfGorge("place 0 ", " 0 0", 0, 999);
        Edges.numberOfGorge("place 0 0 ", " 0", 0, 12);
        Edges.numberOfGorge("place 0 0 0 ", "", 0, 999);
        Edges.due("DRY 0", placeOf("place 0 0 0 999", 1).latest(0, 0), 0);
        Edges.due("DRY 999", placeOf("place 0 999 0 999", 99).latest(0, 0), 10);
        Edges.due("OFF 12", placeOf("place 0 0 12 999", 1).latest(0, 0), -12);
        Edges.due("HARM 0", placeOf("place 0 0 12 0", 1).harm(0), 0);
        Edges.due("HARM 999", placeOf("place 0 0 12 999", 1).harm(0), 999);
    }

    private static GorgeDay placeOf(String place, int brook) {
        return Edges.opened("rain 0 95 1;reach 1 0 0 0 " + brook, place);
    }

    private static void wrongBytes() {
        Edges.edge(4, "The first wrong byte: the begin of the first thing that cannot stand there");
        Edges.wrongGorge("lake  x 0 0 0", 6);
        Edges.wrongGorge("lake 1 lake", 7);
        Edges.wrongGorge("lake ; 1", 5);
        Edges.wrongGorge("lake 1 2 3 4 5", 13);
        Edges.wrongGorge("into 1 2 3 4", 11);
        Edges.wrongGorge("reach 1 2 3 4 5 6", 16);
        Edges.wrongGorge("place 0 1 2 3 4", 14);
        Edges.wrongGorge("gate 1;lake 1 2 3 96;lake 0", 18);
        Edges.wrongGorge("gate 1;gate 10000;gone", 12);

        Edges.edge(4, "a word that is none");
        Edges.wrongGorge("open 0 1", 0);
        Edges.wrongGorge("gate 1; if", 8);
        Edges.wrongGorge("prices 0 0 0", 0);
        Edges.wrongGorge("7", 0);

        Edges.edge(4, "of a 13th LINE");
        Edges.wrongGorge(Edges.times("gate0", 4) + ";" + Edges.times("rain 0 0 1", 8) + "; wind 5", 113);
        Edges.wrongGorge(Edges.times("rain 0 0 1", 12) + ";into 5 4 1", 132);

        Edges.edge(4, "or the text's length, if more must come.");
        Edges.wrongGorge("lake", 4);
        Edges.wrongGorge("lake    ", 8);
        Edges.wrongGorge("lake 1 2 3", 10);
        Edges.wrongGorge("gate 1;  ", 9);
        Edges.wrongGorge("into 0 0", 8);
        Edges.wrongGorge("reach 1 2 3 4", 13);
        Edges.wrongGorge("place 0 0 0", 11);
        Edges.wrongGorge("gate" + " ".repeat(396), 400);
        Edges.wrongGorge(Edges.times("rain 0 0 1", 12) + ";", 132);
    }

    private static void nothingStays() {
        Edges.edge(4, "Of a wrong text nothing stays.");
        Edges.wrongGorge("lake 7 7 7 7;into 0 95 7;gate 7;rain 0 95 7;price 0 95 7;reach 7 7 7 7 7;place 0 7 7 7;", 87);
        Edges.wrongGorge("reach 1 0 0 0 9;place 0 0 0 999;x", 32);
        Edges.wrongGorge("lake 7 7 7 96", 11);
        Edges.wrongGorge("gate 7 8 9 10000", 11);
        Edges.wrongGorge("rain 0 95 10", 10);
        GorgeDay x = Edges.gorge("gate 5 6");
        Edges.throwsThat("a wrong one", Edges.ARGUMENT, Edges.tape(x, "gate 7;gate 8;gate 9;gate 10"), GorgeDay::gorge);
        Edges.due("the room that it took is free again", Edges.tape(x, "gate 7;gate 8;gate 9").gorge(), 2);
    }

    // ---- RULES

    private static void roomForRules() {
        Edges.edge(5, "RULES (at most 4, numbered from 0 on)", "UnsupportedOperationException: there are 4.");
        GorgeDay x = new GorgeDay();
        for (int i = 0; i < 4; i++) {
            Edges.due("RULE " + i, Edges.rule(x, "shut 0"), i);
        }
        Edges.throwsThat("RULE 4", Edges.ROOM, Edges.tape(x, "shut 0"), GorgeDay::rule);
        Edges.due("rules", x.count(7), 4);
        Edges.unchanged("a 5th RULE", () -> Village.withoutTape(EdgesOfTexts::fillRules), y -> Edges.rule(y, "open 0 1"));

        Edges.edge(5, "Uses the TAPE up: a RULE: its number.");
        Edges.due("used up by one that is refused", x.end(1), false);
        GorgeDay y = new GorgeDay();
        Edges.rule(y, "shut 0");
        Edges.due("used up by a right one", y.end(1), false);
        Edges.throwsThat("a wrong one", Edges.ARGUMENT, Edges.tape(y, "shut 4"), GorgeDay::rule);
        Edges.due("used up by a wrong one", y.end(1), false);
        Edges.due("a wrong one takes no number", Edges.rule(y, "shut 0"), 1);
    }

    private static void fillRules(GorgeDay x) {
        while (x.count(7) < 4) {
            Edges.rule(x, "shut 0");
        }
    }

    private static void linesOfRule() {
        Edges.edge(5, "texts: LINE { ; LINE }, at most 12: open GATE STEP [ if C ] | shut GATE [ if C ].");
        Edges.rightRule("");
        Edges.rightRule("    ");
        Edges.rightRule("shut 0");
        Edges.rightRule(Edges.times("shut 0", 12));
        Edges.wrongRule(Edges.times("shut 0", 13), 84);
        Edges.wrongRule(Edges.times("shut 0", 12) + ";", 84);
        Edges.wrongRule(Edges.times("shut 0", 12) + " ; x", 86);
        Edges.wrongRule(";", 0);
        Edges.wrongRule("shut 0;", 7);
        Edges.wrongRule("shut 0 ;;", 8);
        Edges.wrongRule("shut 0 shut 1", 7);
        Edges.wrongRule("close 0", 0);
        Edges.wrongRule("gate 1", 0);
        Edges.wrongRule("0", 0);
        Edges.wrongRule("shut 0;1;shut 0", 7);
        Edges.wrongRule("shut 0 1", 7);
        Edges.wrongRule("open 0 1 2", 9);
        Edges.wrongRule("open 0", 6);
        Edges.wrongRule("open 0  if rain<1", 8);
        Edges.wrongRule("shut", 4);
        Edges.wrongRule("shut 0 if", 9);
        Edges.wrongRule("shut 0 if  ", 11);
        Edges.wrongRule("shut 0 if rain<1 if rain<1", 17);
        Edges.due("the 12th LINE counts", stepBy(Edges.times("shut 0 if quarter<0", 11) + ";open 0 1"), 1);
        GorgeDay x = Edges.gorge("gate 1");
        Edges.due("of no LINE all stays shut", x.stepAt(followed(x, ""), 0, 95), 0);
    }

    private static int followed(GorgeDay x, String text) {
        return x.follow(Edges.rule(x, text));
    }

    private static int stepBy(String text) {
        GorgeDay x = Edges.gorge("gate 1");
        return x.stepAt(followed(x, text), 0, 95);
    }

    private static void numbersOfRule() {
        Edges.edge(5, "GATE: 0 to 3, STEP: 1 to 6, PLACE: 0 to 11, REACH: 0 to 7 (whether there is one or not).");
        Edges.numberOfRule("shut ", "", 0, 3);
        Edges.numberOfRule("open ", " 1", 0, 3);
        Edges.numberOfRule("open 0 ", "", 1, 6);
        Edges.numberOfRule("shut 0 if wet ", "", 0, 11);
        Edges.numberOfRule("shut 0 if depth ", "<1", 0, 7);
        Edges.numberOfRule("shut 0 if gate ", "<1", 0, 3);
        Edges.numberOfRule("shut 0 if 1<gate ", "", 0, 3);
        Edges.wrongRule("shut 0 if wet", 13);
        Edges.wrongRule("shut 0 if depth<1", 15);
        Edges.wrongRule("shut 0 if gate>1", 14);

        Edges.edge(5, "NUMBER: 1 to 6 digits");
        Edges.rightRule("shut 0 if 0<000000");
        Edges.rightRule("shut 0 if 999999>0");
        Edges.wrongRule("shut 0 if 1000000>0", 10);
        Edges.wrongRule("shut 0 if 0<0000000", 12);
        Edges.wrongRule("shut 0 if 0<1+0000000", 14);
        Edges.rightRule("shut 000003 if depth 000007<gate 000003 or wet 000011");
        Edges.wrongRule("shut 0000003", 5);
        Edges.due("the greatest", stepBy("open 0 1 if 999999>999998"), 1);
        Edges.due("three of the greatest", stepBy("open 0 1 if 999999+999999+999999>999999+999999+999998"), 1);
    }

    private static void depthOfRule() {
        Edges.edge(5, "( and not within one another at most 6 deep (the 7th one is wrong).");
        Edges.rightRule("shut 0 if ((((((wet 0))))))");
        Edges.wrongRule("shut 0 if (((((((wet 0)))))))", 16);
        Edges.rightRule("shut 0 if not not not not not not wet 0");
        Edges.wrongRule("shut 0 if not not not not not not not wet 0", 34);
        Edges.rightRule("shut 0 if not(not(not(wet 0)))");
        Edges.wrongRule("shut 0 if not(not(not((wet 0))))", 22);
        Edges.wrongRule("shut 0 if (not(not(not not wet 0)))", 23);
        Edges.rightRule("shut 0 if ((((((wet 0)))))) and ((((((wet 0)))))) or not not not not not not wet 0");
        Edges.rightRule("shut 0 if (((((not wet 0 or not wet 0 and (1<2))))))");
        Edges.wrongRule("shut 0 if (((((not wet 0 or not(wet 0))))))", 31);
        Edges.rightRule("shut 0 if ((((((wet 0))))));shut 0 if ((((((wet 0))))))");
        Edges.due("six deep count", stepBy("open 0 1 if ((((((1<2))))))"), 1);
        Edges.due("six times not", stepBy("open 0 1 if not not not not not not 1<2"), 1);
        Edges.due("five times not", stepBy("open 0 1 if not not not not not 1<2"), 0);
    }

    private static void grammarOfRule() {
        Edges.edge(5,
                "C: ALL { or ALL }; ALL: ATOM { and ATOM }; ATOM: not ATOM | ( C ) | wet PLACE | SUM < SUM | "
                        + "SUM > SUM.");
        Edges.wrongRule("shut 0 if or", 10);
        Edges.wrongRule("shut 0 if and", 10);
        Edges.wrongRule("shut 0 if wet 0 or", 18);
        Edges.wrongRule("shut 0 if wet 0 and", 19);
        Edges.wrongRule("shut 0 if wet 0 and or wet 0", 20);
        Edges.wrongRule("shut 0 if wet 0 wet 0", 16);
        Edges.wrongRule("shut 0 if not", 13);
        Edges.wrongRule("shut 0 if not and", 14);
        Edges.wrongRule("shut 0 if ()", 11);
        Edges.wrongRule("shut 0 if (", 11);
        Edges.wrongRule("shut 0 if (wet 0", 16);
        Edges.wrongRule("shut 0 if (wet 0;shut 0", 16);
        Edges.wrongRule("shut 0 if wet 0)", 15);
        Edges.wrongRule("shut 0 if (1)<2", 12);
        Edges.wrongRule("shut 0 if 1<2<3", 13);
        Edges.wrongRule("shut 0 if 1=2", 11);
        Edges.wrongRule("shut 0 if 1<>2", 12);
        Edges.wrongRule("shut 0 if 1", 11);
        Edges.wrongRule("shut 0 if 1<", 12);
        Edges.wrongRule("shut 0 if <1", 10);
        Edges.wrongRule("shut 0 if wet 0<1", 15);
        Edges.wrongRule("shut 0 if 1<wet 0", 12);

        Edges.edge(5, "SUM: PART { + PART }; PART: NUMBER | level | goal | quarter | rain | depth REACH | gate GATE.");
        Edges.rightRule("shut 0 if level+goal+quarter+rain+depth0+gate0+1<1");
        Edges.wrongRule("shut 0 if 1+<2", 12);
        Edges.wrongRule("shut 0 if +1<2", 10);
        Edges.wrongRule("shut 0 if 1+", 12);
        Edges.wrongRule("shut 0 if 1 1<2", 12);
        Edges.wrongRule("shut 0 if 1-1<2", 11);
        Edges.wrongRule("shut 0 if levels<2", 10);
        Edges.wrongRule("shut 0 if level 0<2", 16);
        Edges.wrongRule("shut 0 if rain 0<2", 15);
        Edges.wrongRule("shut 0 if depth 0 0<2", 18);
        Edges.wrongRule("shut 0 if area<2", 10);
        Edges.wrongRule("shut 0 if (1+2)+3<9", 14);
        Edges.due("as many as a text bears", stepBy("open 0 1 if " + "1+".repeat(190) + "1>190"), 1);
        Edges.due("and no more of them", stepBy("open 0 1 if " + "1+".repeat(190) + "1>191"), 0);
    }

    private static void likewiseOfRules() {
        Edges.edge(5, "Of a wrong text nothing stays. (Likewise of RULES below.)");
        Edges.wrongRule("open 0 1;open 1 1;x", 18);
        GorgeDay x = Edges.gorge("gate 1");
        Edges.throwsThat("a wrong one", Edges.ARGUMENT, Edges.tape(x, "open 0 1;open 0 2 if 1<2;open 0 7"), GorgeDay::rule);
        Edges.due("nothing of it is in the next one", x.stepAt(followed(x, ""), 0, 95), 0);
        Edges.due("rules", x.count(7), 1);
        Edges.wrongRule("shut 0 if (1<2", 14);
        Edges.wrongRule("shut 0 if (1<2   ", 17);
        Edges.wrongRule("shut" + " ".repeat(396), 400);
        Edges.wrongRule("shut\t0", 4);
        Edges.wrongRule("shut 0 \0", 7);
        Edges.wrongRule("shut 0 if 1<2\377", 13);
        Edges.wrongRule("shuts 0", 0);
        Edges.wrongRule("opens 0 1", 0);
        Edges.wrongRule("shut 0 ifs 1<2", 7);
        Edges.wrongRule("shut 0 i f 1<2", 7);
        Edges.wrongRule("shut 0 if notwet 0", 10);
        Edges.wrongRule("shut 0 if wets 0", 10);
        Edges.wrongRule("shut 0 if depths 0<1", 10);
        Edges.wrongRule("shut 0 if wet 0 ors wet 0", 16);
        Edges.wrongRule("shut 0 if wet 0 andwet 0", 16);
        Edges.wrongRule("Shut 0", 0);
        Edges.rightRule("open0 1if1<2or(2<3and 1<2)and not(wet0);shut1if wet11");
        Edges.rightRule("  open  0  1  if  (  1  <  2  )  and  not  wet  0  or  level  +  1  >  2  ;  shut  1  ");
        Edges.rightRule(" ".repeat(400));
    }

    private static void faults() {
        Edges.edge(6, "The first wrong byte of the latest text that was read; NONE without one, and ahead of any.");
        GorgeDay x = new GorgeDay();
        Edges.due("ahead of any", x.fault(), Edges.NONE);
        Edges.throwsThat("wrong at 0", Edges.ARGUMENT, Edges.tape(x, "?"), GorgeDay::gorge);
        Edges.due("the first byte", x.fault(), 0);
        x.open();
        Edges.tape(x, "gate 1");
        Edges.due("a text that is not read yet", x.fault(), 0);
        Edges.due("a right one", x.gorge(), 1);
        Edges.due("without one", x.fault(), Edges.NONE);
        Edges.throwsThat("a wrong RULE", Edges.ARGUMENT, Edges.tape(x, "shut 0 if"), GorgeDay::rule);
        Edges.due("its length", x.fault(), 9);
        Edges.throwsThat("a wrong text behind it", Edges.ARGUMENT, Edges.tape(x, "gate 1 2 ?"), GorgeDay::gorge);
        Edges.due("of the latest", x.fault(), 9);
        x.image();
        Edges.rule(x, "shut 0");
        Edges.due("without one", x.fault(), Edges.NONE);
        Edges.throwsThat("a text of 400", Edges.ARGUMENT, Edges.tape(x, " ".repeat(399) + "x"), GorgeDay::gorge);
        Edges.due("the last byte of the longest", x.fault(), 399);
        x.back();
        Edges.due("it is not gone back to", x.fault(), 399);

        Edges.edge(6, "and fault(), where a text is read (also by one that is refused)");
        GorgeDay full = Edges.gorge("", "", "", "", "", "", "", "", "", "", "", "");
        Edges.throwsThat("a wrong 13th", Edges.ARGUMENT, Edges.tape(full, "gate 1 x"), GorgeDay::gorge);
        Edges.due("it was read", full.fault(), 7);
        Edges.throwsThat("a right 13th", Edges.ROOM, Edges.tape(full, "gate 1"), GorgeDay::gorge);
        Edges.due("it was read, too", full.fault(), Edges.NONE);
        fillRules(full);
        Edges.throwsThat("a wrong 5th RULE", Edges.ARGUMENT, Edges.tape(full, "open 0 7"), GorgeDay::rule);
        Edges.due("it was read", full.fault(), 7);
        Edges.throwsThat("a right 5th RULE", Edges.ROOM, Edges.tape(full, "open 0 6"), GorgeDay::rule);
        Edges.due("it was read, too", full.fault(), Edges.NONE);
        Edges.due("gates", full.count(1), 0);
    }
}
