/**
 * What calls throw: of each number of theirs the last that is right and the first that is not, what is thrown of two,
 * and that a call that throws changes nothing.
 */
final class EdgesOfRefusals {
    private static final String FIRST = "Of several exceptions the one told first is thrown";
    private static final String NOTHING = "a call that throws changes nothing but the TAPE, where it is used up, and fault()";

    private EdgesOfRefusals() {
    }

    static void run() {
        openings();
        gates();
        reaches();
        places();
        peopleAndRules();
        quarters();
        stepsOfGates();
        numbersOfPeople();
        numbersOfPlans();
        indexAheadOfArgument();
        roomComesLast();
    }

    private static void openings() {
        String of = "OPENING";
        int size = Village.OPENINGS;
        Edges.indexes(8, of, size, GorgeDay::copy);
        Edges.indexes(9, of, size, (x, n) -> x.step(n, 0, 4, 5, 2));
        Edges.indexes(10, of, size, (x, n) -> x.slow(n, 0, 4, 2, 1));
        Edges.indexes(11, of, size, (x, n) -> x.pulse(n, 0, 4, 2, 1, 1));
        Edges.indexes(12, of, size, (x, n) -> x.stepAt(n, 0, 0));
        Edges.indexes(13, of, size, (x, n) -> x.water(n, 0, 0));
        Edges.indexes(13, of, size, (x, n) -> x.water(n, -1, 0));
        Edges.indexes(14, of, size, (x, n) -> x.level(n, 0));
        Edges.indexes(15, of, size, (x, n) -> x.depth(n, 0, 0));
        Edges.indexes(16, of, size, (x, n) -> x.flow(n, 0, true));
        Edges.indexes(16, of, size, (x, n) -> x.flow(n, 0, false));
        Edges.indexes(17, of, size, (x, n) -> x.most(n, 0, true, true));
        Edges.indexes(18, of, size, (x, n) -> x.wet(n, 0, 0));
        Edges.indexes(19, of, size, GorgeDay::harm);
        Edges.indexes(20, of, size, GorgeDay::down);
        Edges.indexes(21, of, size, (x, n) -> x.latest(n, 0));
        Edges.indexes(25, of, size, (x, n) -> x.caught(n, 0));
        Edges.indexes(26, of, size, (x, n) -> x.odds(n, 0));
        Edges.indexes(27, of, size, GorgeDay::fear);
        Edges.indexes(29, of, size, GorgeDay::judge);
        Edges.indexes(31, of, size, (x, n) -> x.whom(n, 0));
        Edges.indexes(32, of, size, (x, n) -> x.warden(n, 0, 0, 1, 7, -1));
        Edges.indexes(33, of, size, (x, n) -> x.warns(n, 0));
        Edges.indexes(34, of, size, GorgeDay::bears);
        Edges.indexes(35, of, size, (x, n) -> x.closing(n, 0, 0));
        Edges.indexes(37, of, size, GorgeDay::power);
        Edges.indexes(42, of, size, GorgeDay::like);
        Edges.indexes(44, of, size, (x, n) -> x.near(n, 0));
        Edges.indexes(45, of, size, (x, n) -> x.play(n, 5));
    }

    private static void gates() {
        String of = "GATE";
        int size = Village.GATES;
        Edges.indexes(9, of, size, (x, n) -> x.step(0, n, 4, 5, 2));
        Edges.indexes(10, of, size, (x, n) -> x.slow(0, n, 4, 2, 1));
        Edges.indexes(11, of, size, (x, n) -> x.pulse(0, n, 4, 2, 1, 1));
        Edges.indexes(12, of, size, (x, n) -> x.stepAt(0, n, 0));
        Edges.indexes(30, of, size, (x, n) -> x.best(n, false));
        Edges.indexes(30, of, size, (x, n) -> x.best(n, true));
        Edges.indexes(33, of, size, (x, n) -> x.warns(0, n));
        Edges.indexes(35, of, size, (x, n) -> x.closing(0, n, 0));
        Edges.indexes(38, of, size, (x, n) -> x.hours(n, 1, 0, 2, 1, false));
    }

    private static void reaches() {
        String of = "REACH";
        int size = Village.REACHES;
        Edges.indexes(15, of, size, (x, n) -> x.depth(0, n, 0));
        Edges.indexes(17, of, size, (x, n) -> x.most(0, n, false, false));
        Edges.indexes(32, of, size, (x, n) -> x.warden(0, n, 0, 1, 7, -1));

        Edges.edge(13, "WATER in a QUARTER: of a REACH, or (NONE) of the lake.", of);
        Edges.fine("NONE is the lake", new Village().day, x -> x.water(0, -1, 0));
        Edges.fine("REACH 0", new Village().day, x -> x.water(0, 0, 0));
        Edges.fine("the last REACH", new Village().day, x -> x.water(0, size - 1, 0));
        Edges.refused("below NONE", Edges.INDEX, x -> x.water(0, -2, 0));
        Edges.refused("behind the last", Edges.INDEX, x -> x.water(0, size, 0));
        Edges.throwsThat("the least number", Edges.INDEX, new Village().day, x -> x.water(0, Edges.LOW, 0));
        Edges.throwsThat("the greatest number", Edges.INDEX, new Village().day, x -> x.water(0, Edges.FAR, 0));
    }

    private static void places() {
        String of = "PLACE";
        int size = Village.PLACES;
        Edges.indexes(18, of, size, (x, n) -> x.wet(0, n, 0));
        Edges.indexes(21, of, size, (x, n) -> x.latest(0, n));
        Edges.indexes(22, of, size, (x, n) -> x.person(n, 0, 0, 0, 0, 1));
        Edges.indexes(23, of, size, (x, n) -> x.call(n, 0));
        Edges.indexes(41, of, size, (x, n) -> x.log(n, 0, true));
    }

    private static void peopleAndRules() {
        Edges.indexes(25, "PERSON", Village.PEOPLE, (x, n) -> x.caught(0, n));
        Edges.indexes(26, "PERSON", Village.PEOPLE, (x, n) -> x.odds(0, n));
        Edges.indexes(44, "PERSON", Village.PEOPLE, (x, n) -> x.near(0, n));
        Edges.indexes(39, "RULE", Village.RULES, GorgeDay::follow);
        Edges.indexes(40, "RULE", Village.RULES, GorgeDay::keeps);
    }

    private static void quarters() {
        String of = "QUARTERS 0 to 95.";
        Edges.indexes(9, of, 96, (x, n) -> x.step(0, 0, n, 95, 2));
        Edges.indexes(9, of, 96, (x, n) -> x.step(0, 0, 0, n, 2));
        Edges.indexes(10, of, 96, (x, n) -> x.slow(0, 0, n, 2, 1));
        Edges.indexes(11, of, 96, (x, n) -> x.pulse(0, 0, n, 2, 1, 1));
        Edges.indexes(12, of, 96, (x, n) -> x.stepAt(0, 0, n));
        Edges.indexes(13, of, 96, (x, n) -> x.water(0, 0, n));
        Edges.indexes(13, of, 96, (x, n) -> x.water(0, -1, n));
        Edges.indexes(14, of, 96, (x, n) -> x.level(0, n));
        Edges.indexes(15, of, 96, (x, n) -> x.depth(0, 0, n));
        Edges.indexes(16, of, 96, (x, n) -> x.flow(0, n, false));
        Edges.indexes(16, of, 96, (x, n) -> x.flow(0, n, true));
        Edges.indexes(18, of, 96, (x, n) -> x.wet(0, 0, n));
        Edges.indexes(23, of, 96, (x, n) -> x.call(0, n));
        Edges.indexes(31, of, 96, (x, n) -> x.whom(0, n));
        Edges.indexes(32, of, 96, (x, n) -> x.warden(0, 0, n, 1, 7, -1));
        Edges.indexes(35, of, 96, (x, n) -> x.closing(0, 0, n));
        Edges.indexes(38, of, 96, (x, n) -> x.hours(0, 1, n, 1, 1, false));
        Edges.indexes(41, of, 96, (x, n) -> x.log(0, n, true));
        String also = "IndexOutOfBoundsException: also of the QUARTERS from, till, awake";
        Edges.indexes(22, also, 96, (x, n) -> x.person(0, n, 95, 0, 0, 1));
        Edges.indexes(22, also, 96, (x, n) -> x.person(0, 0, n, 0, 0, 1));
        Edges.indexes(22, also, 96, (x, n) -> x.person(0, 0, 95, 0, n, 1));
    }

    private static void stepsOfGates() {
        Edges.numbers(9, "IllegalArgumentException: the second is below the first, or STEP is not 0 to 6.", 0, 6,
                (x, n) -> x.step(0, 0, 4, 5, n));
        Edges.edge(9, "the second is below the first");
        Edges.fine("the same", new Village().day, x -> x.step(0, 0, 40, 40, 1));
        Edges.fine("one above it", new Village().day, x -> x.step(0, 0, 40, 41, 1));
        Edges.refused("one below it", Edges.ARGUMENT, x -> x.step(0, 0, 40, 39, 2));
        Edges.refused("far below it", Edges.ARGUMENT, x -> x.step(0, 0, 95, 0, 2));

        Edges.numbers(10, "IllegalArgumentException: n is not 0 to 6", 0, 6, (x, n) -> x.slow(0, 0, 4, n, 1));
        Edges.numbers(10, "or each is not 1 to 96.", 1, 96, (x, n) -> x.slow(0, 0, 4, 2, n));
        Edges.numbers(11, "IllegalArgumentException: n is not 0 to 6", 0, 6, (x, n) -> x.pulse(0, 0, 4, n, 1, 1));
        Edges.numbers(11, "long is not 1 to 96", 1, 96, (x, n) -> x.pulse(0, 0, 4, 2, n, 1));
        Edges.numbers(11, "or wait is not 0 to 96.", 0, 96, (x, n) -> x.pulse(0, 0, 4, 2, 1, n));
    }

    private static void numbersOfPeople() {
        Edges.numbers(22, "HEARS (0 to 100 hundredths)", 0, 100, (x, n) -> x.person(0, 0, 0, n, 0, 1));
        Edges.numbers(22, "SEES (1 to 99).", 1, 99, (x, n) -> x.person(0, 0, 0, 0, 0, n));
        Edges.edge(22, "IllegalArgumentException: till is below from", "(not below FROM)");
        Edges.fine("the same", new Village().day, x -> x.person(0, 40, 40, 0, 0, 1));
        Edges.fine("QUARTER 95 both", new Village().day, x -> x.person(0, 95, 95, 0, 0, 1));
        Edges.refused("one below it", Edges.ARGUMENT, x -> x.person(0, 40, 39, 0, 0, 1));
        Edges.refused("far below it", Edges.ARGUMENT, x -> x.person(0, 95, 0, 0, 0, 1));

        String none = "BOUNDS. IllegalArgumentException: a number is none.";
        Edges.numbers(28, "FEAR (0 to 1000 hundredths; 0 at first)", 0, 1000, (x, n) -> x.bounds(n, 0, 0));
        Edges.numbers(28, "FALL (0 to 999; 999 at first)", 0, 999, (x, n) -> x.bounds(0, n, 0));
        Edges.numbers(28, "HARM (0 to 99999; 99999 at first)", 0, 99999, (x, n) -> x.bounds(0, 0, n));
        Edges.edge(28, none, NOTHING);
        Edges.refused("the first is none, the others would be narrower", Edges.ARGUMENT, x -> x.bounds(-1, 0, 0));
        Edges.refused("the second is none, the others would be narrower", Edges.ARGUMENT, x -> x.bounds(0, -1, 0));
        Edges.refused("the third is none, the others would be narrower", Edges.ARGUMENT, x -> x.bounds(0, 0, -1));
    }

    private static void numbersOfPlans() {
        Edges.numbers(32, "PACE (0 to 9 QUARTERS)", 0, 9, (x, n) -> x.warden(0, 0, 0, n, 7, 0));
        Edges.edge(32, "or k is below NONE.");
        Edges.fine("NONE", new Village().day, x -> x.warden(0, 0, 0, 1, 7, -1));
        Edges.fine("0", new Village().day, x -> x.warden(0, 0, 0, 1, 7, 0));
        Edges.fine("the greatest k", new Village().day, x -> x.warden(0, 0, 0, 1, 7, Edges.FAR));
        Edges.refused("below NONE", Edges.ARGUMENT, x -> x.warden(0, 0, 0, 1, 7, -2));
        Edges.refused("the least k", Edges.ARGUMENT, x -> x.warden(0, 0, 0, 1, 7, Edges.LOW));
        Edges.numbers(36, "TURBINE (0 to 9999; 0 at first).", 0, 9999, GorgeDay::turbine);
        Edges.numbers(38, "IllegalArgumentException: STEP is not 0 to 6", 0, 6, (x, n) -> x.hours(0, n, 0, 2, 1, false));
        Edges.numbers(38, "in just so many QUARTERS (0 to 96) from a QUARTER on", 0, 96,
                (x, n) -> x.hours(0, 1, 0, n, 1, false));
        Edges.numbers(38, "or least is not 1 to 96.", 1, 96, (x, n) -> x.hours(0, 1, 0, 2, n, true));
    }

    private static void indexAheadOfArgument() {
        Edges.edge(9, FIRST);
        Edges.refused("step: no OPENING, STEP 7", Edges.INDEX, x -> x.step(2, 0, 4, 5, 7));
        Edges.refused("step: no GATE, below FROM", Edges.INDEX, x -> x.step(0, 2, 5, 4, 1));
        Edges.refused("step: no QUARTER from, below it", Edges.INDEX, x -> x.step(0, 0, 96, 4, 1));
        Edges.refused("step: no QUARTER to, below FROM", Edges.INDEX, x -> x.step(0, 0, 5, -1, 1));
        Edges.edge(10, FIRST);
        Edges.refused("slow: no OPENING, n 7", Edges.INDEX, x -> x.slow(2, 0, 4, 7, 1));
        Edges.refused("slow: no GATE, each 0", Edges.INDEX, x -> x.slow(0, 2, 4, 1, 0));
        Edges.refused("slow: no QUARTER, n -1", Edges.INDEX, x -> x.slow(0, 0, 96, -1, 1));
        Edges.edge(11, FIRST);
        Edges.refused("pulse: no OPENING, n 7", Edges.INDEX, x -> x.pulse(2, 0, 4, 7, 1, 1));
        Edges.refused("pulse: no GATE, lasts 0", Edges.INDEX, x -> x.pulse(0, 2, 4, 1, 0, 1));
        Edges.refused("pulse: no QUARTER, wait -1", Edges.INDEX, x -> x.pulse(0, 0, 96, 1, 1, -1));
        Edges.edge(22, FIRST);
        Edges.refused("person: no PLACE, SEES 0", Edges.INDEX, x -> x.person(3, 0, 0, 0, 0, 0));
        Edges.refused("person: no QUARTER till, below FROM", Edges.INDEX, x -> x.person(0, 5, -1, 0, 0, 1));
        Edges.refused("person: no QUARTER awake, HEARS 101", Edges.INDEX, x -> x.person(0, 0, 0, 101, 96, 1));
        Edges.refused("person: no QUARTER from, TILL below it", Edges.INDEX, x -> x.person(0, 96, 0, 0, 0, 1));
        Edges.edge(32, FIRST);
        Edges.refused("warden: no OPENING, PACE 10", Edges.INDEX, x -> x.warden(2, 0, 0, 10, 7, 0));
        Edges.refused("warden: no REACH, k -2", Edges.INDEX, x -> x.warden(0, 2, 0, 1, 7, -2));
        Edges.refused("warden: no QUARTER, PACE -1", Edges.INDEX, x -> x.warden(0, 0, -1, -1, 7, 0));
        Edges.edge(38, FIRST);
        Edges.refused("hours: no GATE, STEP 7", Edges.INDEX, x -> x.hours(2, 7, 0, 1, 1, false));
        Edges.refused("hours: no QUARTER, least 0", Edges.INDEX, x -> x.hours(0, 1, 96, 1, 0, false));
    }

    private static Village full() {
        return new Village(EdgesOfRefusals::fill);
    }

    /** Fills all that calls may fill, but for the texts, whose reading is looked at elsewhere. */
    private static void fill(GorgeDay x) {
        while (x.count(4) < 6) {
            x.open();
        }
        while (x.count(5) < 10) {
            x.person(0, 0, 0, 0, 0, 1);
        }
        while (x.count(8) < 16) {
            x.log(0, 0, false);
        }
        x.call(1, 9);
        x.call(1, 10);
    }

    private static void roomComesLast() {
        Edges.edge(7, "UnsupportedOperationException: there are 6.", NOTHING);
        Edges.refused("open", Edges.ROOM, EdgesOfRefusals::full, GorgeDay::open);
        Edges.edge(8, FIRST, "UnsupportedOperationException: there are 6.");
        Edges.refused("copy", Edges.ROOM, EdgesOfRefusals::full, x -> x.copy(5));
        Edges.refused("copy of none", Edges.INDEX, EdgesOfRefusals::full, x -> x.copy(6));
        Edges.edge(39, FIRST, "UnsupportedOperationException: there are 6.");
        Edges.refused("follow", Edges.ROOM, EdgesOfRefusals::full, x -> x.follow(1));
        Edges.refused("follow of none", Edges.INDEX, EdgesOfRefusals::full, x -> x.follow(2));
        Edges.edge(22, FIRST, "UnsupportedOperationException: there are 10.");
        Edges.refused("person", Edges.ROOM, EdgesOfRefusals::full, x -> x.person(0, 0, 0, 0, 0, 1));
        Edges.refused("person at none", Edges.INDEX, EdgesOfRefusals::full, x -> x.person(3, 0, 0, 0, 0, 1));
        Edges.refused("person of SEES 0", Edges.ARGUMENT, EdgesOfRefusals::full, x -> x.person(0, 0, 0, 0, 0, 0));
        Edges.edge(23, FIRST, "UnsupportedOperationException: there are 24, or 4 of that PLACE.");
        Edges.fine("another PLACE", full().day, x -> x.call(0, 0));
        Edges.refused("call", Edges.ROOM, EdgesOfRefusals::full, x -> x.call(1, 0));
        Edges.refused("call in no QUARTER", Edges.INDEX, EdgesOfRefusals::full, x -> x.call(1, 96));
        Edges.refused("call of no PLACE", Edges.INDEX, EdgesOfRefusals::full, x -> x.call(3, 0));
        Edges.edge(41, FIRST, "UnsupportedOperationException: there are 16.");
        Edges.refused("log", Edges.ROOM, EdgesOfRefusals::full, x -> x.log(0, 0, true));
        Edges.refused("log of no PLACE", Edges.INDEX, EdgesOfRefusals::full, x -> x.log(3, 0, true));
        Edges.refused("log in no QUARTER", Edges.INDEX, EdgesOfRefusals::full, x -> x.log(0, -1, true));
    }
}
