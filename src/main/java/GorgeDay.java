import java.util.Arrays;

/**
 * A lake above a gorge, its gates, and who stands below, by quarters of an hour of one day.
 * Every row is made once, with the object, and used again by each call: a run has little room.
 */
public final class GorgeDay {
    public static final int NONE = -1;

    private static final int QUARTERS = 96;
    private static final int TAPE_ROOM = 400;
    private static final int FED = 20;
    private static final int TEXTS = 12;
    private static final int LINES = 12;
    private static final int GATES = 4;
    private static final int STEPS = 6;
    private static final int REACHES = 8;
    private static final int PLACES = 12;
    private static final int OPENINGS = 6;
    private static final int PEOPLE = 10;
    private static final int CALLS = 24;
    private static final int CALLS_OF_PLACE = 4;
    private static final int RULES = 4;
    private static final int LOGS = 16;
    private static final int VISITS = 6;
    private static final int PACES = 9;
    private static final int TURBINES = 9999;
    private static final int NEVER = 99;

    private final Text text = new Text();
    private final Gorge draft = new Gorge();
    private final RuleReader ruleReader = new RuleReader();
    private final Day now = new Day();
    private final Day kept = new Day();
    private final Flood flood = new Flood();
    private final Danger danger = new Danger();
    private final Caller caller = new Caller();
    private final Trials trials = new Trials();
    private final HourPlan plan = new HourPlan();
    private int wrongByte = NONE;
    private boolean imageKept = false;
    /** The OPENING whose WATER the flood holds, so that many questions about one cost one run. */
    private int shown = NONE;

    public GorgeDay() {
    }

    public int feed(int a, int b, int c, int d, int e) {
        if (text.length + FED > TAPE_ROOM) {
            return NONE;
        }
        text.addNumber(a);
        text.addNumber(b);
        text.addNumber(c);
        text.addNumber(d);
        text.addNumber(e);
        return text.length;
    }

    public boolean end(int n) {
        if (n < 0 || n > text.length) {
            return false;
        }
        text.length = n;
        return true;
    }

    public int gorge() throws IllegalArgumentException, UnsupportedOperationException {
        draft.takeFrom(now.gorge);
        text.rewind();
        draft.tell(text);
        if (!closeText()) {
            throw new IllegalArgumentException("the text is wrong");
        }
        if (now.texts >= TEXTS) {
            throw new UnsupportedOperationException("there are 12 texts");
        }
        now.gorge.takeFrom(draft);
        now.texts++;
        shown = NONE;
        return now.texts;
    }

    public int rule() throws IllegalArgumentException, UnsupportedOperationException {
        text.rewind();
        ruleReader.tell(text);
        if (!closeText()) {
            throw new IllegalArgumentException("the text is wrong");
        }
        if (now.ruleCount >= RULES) {
            throw new UnsupportedOperationException("there are 4 rules");
        }
        now.rules[now.ruleCount] = ruleReader.made();
        now.ruleCount++;
        return now.ruleCount - 1;
    }

    public int fault() {
        return wrongByte;
    }

    public int open() throws UnsupportedOperationException {
        needRoomForOpening();
        Arrays.fill(now.openings[now.openingCount], 0);
        return countOpening();
    }

    public int copy(int opening) throws IndexOutOfBoundsException, UnsupportedOperationException {
        needOpening(opening);
        needRoomForOpening();
        copyRow(now.openings[opening], now.openings[now.openingCount]);
        return countOpening();
    }

    public void step(int opening, int gate, int from, int to, int n)
            throws IndexOutOfBoundsException, IllegalArgumentException {
        needOpening(opening);
        needGate(gate);
        needQuarter(from);
        needQuarter(to);
        needArgument(to >= from && isStep(n));
        setSteps(now.openings[opening], gate, from, to + 1, n);
        forget(opening);
    }

    public void slow(int opening, int gate, int from, int n, int each)
            throws IndexOutOfBoundsException, IllegalArgumentException {
        needOpening(opening);
        needGate(gate);
        needQuarter(from);
        needArgument(isStep(n) && each >= 1 && each <= QUARTERS);
        goStepwise(now.openings[opening], gate, from, n, each);
        forget(opening);
    }

    public void pulse(int opening, int gate, int from, int n, int lasts, int wait)
            throws IndexOutOfBoundsException, IllegalArgumentException {
        needOpening(opening);
        needGate(gate);
        needQuarter(from);
        needArgument(isStep(n) && lasts >= 1 && lasts <= QUARTERS && wait >= 0 && wait <= QUARTERS);
        setSteps(now.openings[opening], gate, from, from + lasts, n);
        setSteps(now.openings[opening], gate, from + lasts, from + lasts + wait, 0);
        forget(opening);
    }

    public int stepAt(int opening, int gate, int quarter) throws IndexOutOfBoundsException {
        needOpening(opening);
        needGate(gate);
        needQuarter(quarter);
        return now.openings[opening][gate * QUARTERS + quarter];
    }

    public int water(int opening, int reach, int quarter) throws IndexOutOfBoundsException {
        needOpening(opening);
        if (reach != NONE) {
            needReach(reach);
        }
        needQuarter(quarter);
        Flood by = floodOf(opening);
        return reach == NONE ? by.lake[quarter] : by.waters[reach][quarter];
    }

    public int level(int opening, int quarter) throws IndexOutOfBoundsException {
        needOpening(opening);
        needQuarter(quarter);
        return floodOf(opening).levelIn(now.gorge, quarter);
    }

    public int depth(int opening, int reach, int quarter) throws IndexOutOfBoundsException {
        needOpening(opening);
        needReach(reach);
        needQuarter(quarter);
        return floodOf(opening).depths[reach][quarter];
    }

    public int flow(int opening, int quarter, boolean gone) throws IndexOutOfBoundsException {
        needOpening(opening);
        needQuarter(quarter);
        Flood by = floodOf(opening);
        return gone ? by.gone[quarter] : by.letGo[quarter];
    }

    public int most(int opening, int reach, boolean falls, boolean when) throws IndexOutOfBoundsException {
        needOpening(opening);
        needReach(reach);
        Flood by = floodOf(opening);
        int quarter = by.greatestRise(reach, falls ? -1 : 1);
        int rise = by.riseIn(reach, quarter);
        return when ? quarter : falls ? -rise : rise;
    }

    public boolean wet(int opening, int place, int quarter) throws IndexOutOfBoundsException {
        needOpening(opening);
        needPlace(place);
        needQuarter(quarter);
        return floodOf(opening).isWet(now.gorge, place, quarter);
    }

    public int harm(int opening) throws IndexOutOfBoundsException {
        needOpening(opening);
        return floodOf(opening).harmDone(now.gorge);
    }

    public int down(int opening) throws IndexOutOfBoundsException {
        needOpening(opening);
        Flood by = floodOf(opening);
        for (int q = 0; q < QUARTERS; q++) {
            if (by.levelIn(now.gorge, q) <= now.gorge.goal) {
                return q;
            }
        }
        return NONE;
    }

    public int latest(int opening, int place) throws IndexOutOfBoundsException {
        needOpening(opening);
        needPlace(place);
        int first = floodOf(opening).firstWet(now.gorge, place, 0, QUARTERS - 1);
        return first == NONE ? NEVER : first - now.gorge.off[place];
    }

    public int person(int place, int from, int till, int hears, int awake, int sees)
            throws IndexOutOfBoundsException, IllegalArgumentException, UnsupportedOperationException {
        needPlace(place);
        needQuarter(from);
        needQuarter(till);
        needQuarter(awake);
        needArgument(till >= from && hears >= 0 && hears <= 100 && sees >= 1 && sees <= 99);
        if (now.people.size >= PEOPLE) {
            throw new UnsupportedOperationException("there are 10 people");
        }
        now.people.addPerson(place, from, till, hears, awake, sees);
        return now.people.size - 1;
    }

    public int call(int place, int quarter) throws IndexOutOfBoundsException, UnsupportedOperationException {
        needPlace(place);
        needQuarter(quarter);
        if (now.people.calls >= CALLS || now.people.callsOf(place) >= CALLS_OF_PLACE) {
            throw new UnsupportedOperationException("there is no room for a call");
        }
        now.people.addCall(place, quarter);
        return now.people.calls;
    }

    public int calls() {
        int were = now.people.calls;
        now.people.calls = 0;
        return were;
    }

    public int caught(int opening, int person) throws IndexOutOfBoundsException {
        needOpening(opening);
        needPerson(person);
        return dangerOf(opening).caughtIn[person];
    }

    public long odds(int opening, int person) throws IndexOutOfBoundsException {
        needOpening(opening);
        needPerson(person);
        return dangerOf(opening).oddsWith(now.people, person, 0);
    }

    public long fear(int opening) throws IndexOutOfBoundsException {
        needOpening(opening);
        return dangerOf(opening).fearNow(now.people);
    }

    public void bounds(int fear, int fall, int harm) throws IllegalArgumentException {
        needArgument(fear >= 0 && fear <= 1000 && fall >= 0 && fall <= 999 && harm >= 0 && harm <= 99999);
        now.fearBound = fear;
        now.fallBound = fall;
        now.harmBound = harm;
    }

    public int judge(int opening) throws IndexOutOfBoundsException {
        needOpening(opening);
        return now.judged(floodOf(opening), danger);
    }

    public int best(int gate, boolean bars) throws IndexOutOfBoundsException {
        needGate(gate);
        trials.tryGate(now, gate);
        return bars ? trials.commonestBar() : trials.best;
    }

    public int whom(int opening, int quarter) throws IndexOutOfBoundsException {
        needOpening(opening);
        needQuarter(quarter);
        return caller.placeToCall(now, dangerOf(opening), quarter);
    }

    public long warden(int opening, int reach, int quarter, int pace, int set, int k)
            throws IndexOutOfBoundsException, IllegalArgumentException {
        needOpening(opening);
        needReach(reach);
        needQuarter(quarter);
        int visited = set & ((1 << now.gorge.places) - 1);
        needArgument(pace >= 0 && pace <= PACES && Integer.bitCount(visited) <= VISITS && k >= NONE);
        caller.setOut(reach, quarter, pace);
        caller.seekOrder(now, dangerOf(opening), visited);
        return k == NONE ? caller.leastFear : caller.visitOf(k);
    }

    public int warns(int opening, int gate) throws IndexOutOfBoundsException {
        needOpening(opening);
        needGate(gate);
        return trials.warningWave(now, now.openings[opening], gate);
    }

    public int bears(int opening) throws IndexOutOfBoundsException {
        needOpening(opening);
        return trials.mostRain(now, now.openings[opening]);
    }

    public int closing(int opening, int gate, int quarter) throws IndexOutOfBoundsException {
        needOpening(opening);
        needGate(gate);
        needQuarter(quarter);
        return trials.quickestClosing(now, now.openings[opening], gate, quarter);
    }

    public void turbine(int n) throws IllegalArgumentException {
        needArgument(n >= 0 && n <= TURBINES);
        now.turbine = n;
    }

    public long power(int opening) throws IndexOutOfBoundsException {
        needOpening(opening);
        Flood by = floodOf(opening);
        int[] price = now.gorge.rows[Gorge.PRICE];
        long sum = 0;
        for (int q = 0; q < QUARTERS; q++) {
            sum += (long) Math.min(by.letGo[q], now.turbine) * price[q];
        }
        return sum;
    }

    public long hours(int gate, int step, int quarter, int many, int least, boolean first)
            throws IndexOutOfBoundsException, IllegalArgumentException {
        needGate(gate);
        needQuarter(quarter);
        needArgument(isStep(step) && many >= 0 && many <= QUARTERS && least >= 1 && least <= QUARTERS);
        int used = Math.min(now.gorge.flowOf(gate, step), now.turbine);
        plan.seek(now.gorge.rows[Gorge.PRICE], used, quarter, many, least);
        return first ? plan.begins : plan.worth;
    }

    public int follow(int rule) throws IndexOutOfBoundsException, UnsupportedOperationException {
        needIndex(rule, now.ruleCount);
        needRoomForOpening();
        trials.obey(now, now.rules[rule]);
        copyRow(trials.steps, now.openings[now.openingCount]);
        return countOpening();
    }

    public int keeps(int rule) throws IndexOutOfBoundsException {
        needIndex(rule, now.ruleCount);
        trials.obey(now, now.rules[rule]);
        return now.judged(trials.flood, trials.danger);
    }

    public int log(int place, int quarter, boolean wet)
            throws IndexOutOfBoundsException, UnsupportedOperationException {
        needPlace(place);
        needQuarter(quarter);
        if (now.logs >= LOGS) {
            throw new UnsupportedOperationException("the log is full");
        }
        now.addLog(place, quarter, wet);
        return now.logs;
    }

    public int like(int opening) throws IndexOutOfBoundsException {
        needOpening(opening);
        return now.logsMet(floodOf(opening));
    }

    public int likest() {
        int likest = NONE;
        int most = NONE;
        for (int i = 0; i < now.openingCount; i++) {
            int met = now.logsMet(floodOf(i));
            if (met > most) {
                most = met;
                likest = i;
            }
        }
        return likest;
    }

    public int near(int opening, int person) throws IndexOutOfBoundsException {
        needOpening(opening);
        needPerson(person);
        Flood by = floodOf(opening);
        People people = now.people;
        int nearest = NEVER;
        for (int q = 0; q < QUARTERS; q++) {
            if (by.isWet(now.gorge, people.place[person], q)) {
                int off = Math.max(people.from[person] - q, q - people.till[person]);
                nearest = Math.min(nearest, Math.max(off, 0));
            }
        }
        return nearest;
    }

    public int play(int opening, int seed) throws IndexOutOfBoundsException {
        needOpening(opening);
        return dangerOf(opening).drawnBits(now.people, seed);
    }

    public void image() {
        kept.takeFrom(now);
        imageKept = true;
    }

    public boolean back() {
        if (!imageKept) {
            return false;
        }
        now.takeFrom(kept);
        shown = NONE;
        return true;
    }

    public int count(int what) {
        switch (what) {
            case 0: return now.texts;
            case 1: return now.gorge.gates;
            case 2: return now.gorge.reaches;
            case 3: return now.gorge.places;
            case 4: return now.openingCount;
            case 5: return now.people.size;
            case 6: return now.people.calls;
            case 7: return now.ruleCount;
            case 8: return now.logs;
            case 9: return now.gorge.firstLevel();
            case 10: return now.gorge.wholeInflow();
            case 11: return now.turbine;
            default: return NONE;
        }
    }

    /** Ends the reading of a text, which uses it up whether it was right or not. */
    private boolean closeText() {
        wrongByte = text.wrong;
        text.length = 0;
        return wrongByte == NONE;
    }

    private int countOpening() {
        now.openingCount++;
        return now.openingCount - 1;
    }

    private void forget(int opening) {
        if (shown == opening) {
            shown = NONE;
        }
    }

    private Flood floodOf(int opening) {
        if (shown != opening) {
            flood.runFrom(now.gorge, now.openings[opening], 0, 0);
            shown = opening;
        }
        return flood;
    }

    private Danger dangerOf(int opening) {
        danger.look(now.gorge, now.people, floodOf(opening));
        return danger;
    }

    private void needOpening(int opening) {
        needIndex(opening, now.openingCount);
    }

    private void needGate(int gate) {
        needIndex(gate, now.gorge.gates);
    }

    private void needReach(int reach) {
        needIndex(reach, now.gorge.reaches);
    }

    private void needPlace(int place) {
        needIndex(place, now.gorge.places);
    }

    private void needPerson(int person) {
        needIndex(person, now.people.size);
    }

    private void needRoomForOpening() {
        if (now.openingCount >= OPENINGS) {
            throw new UnsupportedOperationException("there are 6 openings");
        }
    }

    private static void needQuarter(int quarter) {
        needIndex(quarter, QUARTERS);
    }

    private static void needIndex(int index, int size) {
        if (index < 0 || index >= size) {
            throw new IndexOutOfBoundsException("there is no such one");
        }
    }

    private static void needArgument(boolean right) {
        if (!right) {
            throw new IllegalArgumentException("a number is none");
        }
    }

    private static boolean isStep(int n) {
        return n >= 0 && n <= STEPS;
    }

    private static void copyRow(int[] from, int[] to) {
        System.arraycopy(from, 0, to, 0, Math.min(from.length, to.length));
    }

    /** A quotient rounded down, of numbers that are never negative. */
    private static int share(int amount, int by) {
        return by > 0 ? amount / by : 0;
    }

    /** Sets a GATE's STEP in the QUARTERS from one on and ahead of another, as far as there are. */
    private static void setSteps(int[] steps, int gate, int from, int until, int n) {
        for (int q = from; q < until && q < QUARTERS; q++) {
            steps[gate * QUARTERS + q] = n;
        }
    }

    private static void goStepwise(int[] steps, int gate, int from, int n, int each) {
        int at = from == 0 ? 0 : steps[gate * QUARTERS + from - 1];
        for (int q = from; q < QUARTERS; q++) {
            if (share(q - from, each) * each == q - from) {
                at += Integer.compare(n, at);
            }
            steps[gate * QUARTERS + q] = at;
        }
    }

    /** The TAPE, and a finger on the thing of it that is read next. */
    private static final class Text {
        static final int END = 0;
        static final int WORD = 1;
        static final int NUMBER = 2;
        static final int SIGN = 3;
        static final int DIGITS = 6;

        final int[] bytes = new int[TAPE_ROOM];
        int length = 0;
        int wrong = NONE;
        private int kind = END;
        private int begin = 0;
        private int behind = 0;
        private int value = 0;

        void addNumber(int n) {
            for (int shift = 24; shift >= 0 && length < TAPE_ROOM; shift -= 8) {
                bytes[length] = (n >>> shift) & 255;
                length++;
            }
        }

        void rewind() {
            wrong = NONE;
            behind = 0;
            goOn();
        }

        boolean isRight() {
            return wrong == NONE;
        }

        /** What is read behind the first wrong byte is not looked at any more. */
        void fail() {
            if (wrong == NONE) {
                wrong = begin;
            }
        }

        /** Goes to the next thing; in one piece, since the calls that lead here are many already. */
        void goOn() {
            begin = behind;
            while (begin < length && bytes[begin] == ' ') {
                begin++;
            }
            behind = begin;
            value = 0;
            while (behind < length && bytes[behind] >= '0' && bytes[behind] <= '9') {
                value = behind - begin < DIGITS ? value * 10 + bytes[behind] - '0' : NONE;
                behind++;
            }
            kind = behind > begin ? NUMBER : WORD;
            while (kind == WORD && behind < length && bytes[behind] >= 'a' && bytes[behind] <= 'z') {
                behind++;
            }
            if (begin >= length) {
                kind = END;
            } else if (behind == begin) {
                kind = SIGN;
                behind++;
            }
        }

        boolean isNumber() {
            return kind == NUMBER;
        }

        boolean isSign(char sign) {
            return kind == SIGN && bytes[begin] == sign;
        }

        boolean isWord(String word) {
            if (kind != WORD || behind - begin != word.length()) {
                return false;
            }
            for (int i = 0; i < word.length(); i++) {
                if (bytes[begin + i] != word.charAt(i)) {
                    return false;
                }
            }
            return true;
        }

        boolean takeWord(String word) {
            if (!isRight() || !isWord(word)) {
                return false;
            }
            goOn();
            return true;
        }

        boolean takeSign(char sign) {
            if (!isRight() || !isSign(sign)) {
                return false;
            }
            goOn();
            return true;
        }

        int takeNumber(int least, int most) {
            if (!isRight() || kind != NUMBER || value < least || value > most) {
                fail();
                return least;
            }
            int taken = value;
            goOn();
            return taken;
        }

        /** Whether the LINE of this number begins here; behind the last one all that may come is the text's end. */
        boolean lineBegins(int line) {
            if (!isRight() || kind == END) {
                return false;
            }
            if ((line > 0 && !takeSign(';')) || line >= LINES) {
                fail();
            }
            return isRight();
        }
    }

    /** THE GORGE as it was told. */
    private static final class Gorge {
        static final int INTO = 0;
        static final int RAIN = 1;
        static final int PRICE = 2;
        static final int FLOWS = STEPS + 1;

        int area = 1;
        int water = 0;
        int goal = 0;
        int by = QUARTERS - 1;
        final int[][] rows = new int[3][QUARTERS];
        int gates = 0;
        final int[] steps = new int[GATES];
        final int[] flows = new int[GATES * FLOWS];
        int reaches = 0;
        final int[] width = new int[REACHES];
        final int[] slow = new int[REACHES];
        final int[] quick = new int[REACHES];
        final int[] turn = new int[REACHES];
        final int[] brook = new int[REACHES];
        int places = 0;
        final int[] reachOf = new int[PLACES];
        final int[] dry = new int[PLACES];
        final int[] off = new int[PLACES];
        final int[] harm = new int[PLACES];

        void takeFrom(Gorge other) {
            area = other.area;
            water = other.water;
            goal = other.goal;
            by = other.by;
            for (int i = 0; i < rows.length; i++) {
                copyRow(other.rows[i], rows[i]);
            }
            gates = other.gates;
            copyRow(other.steps, steps);
            copyRow(other.flows, flows);
            reaches = other.reaches;
            copyRow(other.width, width);
            copyRow(other.slow, slow);
            copyRow(other.quick, quick);
            copyRow(other.turn, turn);
            copyRow(other.brook, brook);
            places = other.places;
            copyRow(other.reachOf, reachOf);
            copyRow(other.dry, dry);
            copyRow(other.off, off);
            copyRow(other.harm, harm);
        }

        /** Of a wrong text a part may stay: it is told to a draft, which is then put away. */
        void tell(Text text) {
            for (int line = 0; line < LINES && text.lineBegins(line); line++) {
                tellLine(text);
            }
            text.lineBegins(LINES);
        }

        private void tellLine(Text text) {
            if (text.takeWord("lake")) {
                tellLake(text);
            } else if (text.takeWord("into")) {
                tellRow(text, INTO, 9999);
            } else if (text.takeWord("rain")) {
                tellRow(text, RAIN, 9);
            } else if (text.takeWord("price")) {
                tellRow(text, PRICE, 99);
            } else if (gates < GATES && text.takeWord("gate")) {
                tellGate(text);
            } else if (reaches < REACHES && text.takeWord("reach")) {
                tellReach(text);
            } else if (places < PLACES && text.takeWord("place")) {
                tellPlace(text);
            } else {
                text.fail();
            }
        }

        private void tellLake(Text text) {
            area = text.takeNumber(1, 9999);
            water = text.takeNumber(0, 999999);
            goal = text.takeNumber(0, 9999);
            by = text.takeNumber(0, QUARTERS - 1);
        }

        private void tellRow(Text text, int row, int most) {
            int from = text.takeNumber(0, QUARTERS - 1);
            int to = text.takeNumber(from, QUARTERS - 1);
            int n = text.takeNumber(0, most);
            for (int q = from; q <= to; q++) {
                rows[row][q] = n;
            }
        }

        private void tellGate(Text text) {
            int many = 0;
            do {
                many++;
                flows[gates * FLOWS + many] = text.takeNumber(0, 9999);
            } while (many < STEPS && text.isRight() && text.isNumber());
            steps[gates] = many;
            gates++;
        }

        private void tellReach(Text text) {
            width[reaches] = text.takeNumber(1, 999);
            slow[reaches] = text.takeNumber(0, 100);
            quick[reaches] = text.takeNumber(0, 100);
            turn[reaches] = text.takeNumber(0, 999);
            brook[reaches] = text.takeNumber(0, 99);
            reaches++;
        }

        private void tellPlace(Text text) {
            reachOf[places] = text.takeNumber(0, reaches - 1);
            dry[places] = text.takeNumber(0, 999);
            off[places] = text.takeNumber(0, 12);
            harm[places] = text.takeNumber(0, 999);
            places++;
        }

        int firstLevel() {
            return share(water, area);
        }

        int wholeInflow() {
            int sum = 0;
            for (int q = 0; q < QUARTERS; q++) {
                sum += rows[INTO][q];
            }
            return sum;
        }

        /** A STEP that a GATE does not have is its last. */
        int flowOf(int gate, int step) {
            return flows[gate * FLOWS + Math.min(step, steps[gate])];
        }
    }

    /** A RULE: of each LINE its GATE, its STEP and its condition, whose parts stand behind what they join. */
    private static final class Rule {
        static final int NUMBER = 0;
        static final int LEVEL = 1;
        static final int GOAL = 2;
        static final int QUARTER = 3;
        static final int RAIN = 4;
        static final int DEPTH = 5;
        static final int GATE = 6;
        static final int WET = 7;
        static final int NOT = 8;
        static final int ADD = 9;
        static final int LESS = 10;
        static final int MORE = 11;
        static final int AND = 12;
        static final int OR = 13;
        static final int KIND_BITS = 4;
        static final int KIND_MASK = 15;
        /** Two halves wait at each of 7 depths, and three parts of the innermost comparison. */
        static final int STACK_ROOM = 24;

        private final int lines;
        private final int[] gate;
        private final int[] step;
        private final int[] until;
        private final int[] code;
        private final int[] stack = new int[STACK_ROOM];

        Rule(int lines, int[] gate, int[] step, int[] until, int[] code) {
            this.lines = lines;
            this.gate = gate;
            this.step = step;
            this.until = until;
            this.code = code;
        }

        /** The STEP of a GATE in a QUARTER; NONE, if no LINE of it holds. */
        int stepFor(int asked, Gorge gorge, Flood flood, int[] steps, int quarter) {
            for (int i = 0; i < lines; i++) {
                if (gate[i] == asked && holds(i, gorge, flood, steps, quarter)) {
                    return step[i];
                }
            }
            return NONE;
        }

        private boolean holds(int line, Gorge gorge, Flood flood, int[] steps, int quarter) {
            int top = 0;
            for (int i = line == 0 ? 0 : until[line - 1]; i < until[line]; i++) {
                int kind = code[i] & KIND_MASK;
                int of = code[i] >> KIND_BITS;
                if (kind >= NOT) {
                    top = join(kind, top);
                } else if (top < STACK_ROOM) {
                    stack[top] = kind == GATE
                            ? stepAhead(gorge, steps, of, quarter)
                            : partOf(kind, of, gorge, flood, quarter);
                    top++;
                }
            }
            return top == 0 || stack[0] != 0;
        }

        private static int stepAhead(Gorge gorge, int[] steps, int gate, int quarter) {
            return gate < gorge.gates && quarter > 0 ? steps[gate * QUARTERS + quarter - 1] : 0;
        }

        private static int partOf(int kind, int of, Gorge gorge, Flood flood, int quarter) {
            switch (kind) {
                case NUMBER: return of;
                case LEVEL: return flood.levelIn(gorge, quarter - 1);
                case GOAL: return gorge.goal;
                case QUARTER: return quarter;
                case RAIN: return gorge.rows[Gorge.RAIN][quarter];
                case DEPTH: return of < gorge.reaches && quarter > 0 ? flood.depths[of][quarter - 1] : 0;
                case WET: return of < gorge.places && quarter > 0 && flood.isWet(gorge, of, quarter - 1) ? 1 : 0;
                default: return 0;
            }
        }

        /** Joins what stands on top, and answers how high the stack is then. */
        private int join(int kind, int top) {
            if (kind == NOT) {
                if (top >= 1) {
                    stack[top - 1] = 1 - stack[top - 1];
                }
                return top;
            }
            if (top < 2) {
                return top;
            }
            stack[top - 2] = joined(kind, stack[top - 2], stack[top - 1]);
            return top - 1;
        }

        private static int joined(int kind, int left, int right) {
            switch (kind) {
                case ADD: return left + right;
                case LESS: return left < right ? 1 : 0;
                case MORE: return left > right ? 1 : 0;
                case AND: return left & right;
                default: return left | right;
            }
        }
    }

    /** Reads the text of a RULE into rows of its own, from which a RULE is made only if it is right. */
    private static final class RuleReader {
        static final int DEEPEST = 6;
        static final int GREATEST = 999999;

        private int lines = 0;
        private final int[] gate = new int[LINES];
        private final int[] step = new int[LINES];
        private final int[] until = new int[LINES];
        private int size = 0;
        private final int[] code = new int[TAPE_ROOM];

        void tell(Text text) {
            lines = 0;
            size = 0;
            for (int line = 0; line < LINES && text.lineBegins(line); line++) {
                boolean opens = text.takeWord("open");
                if (!opens && !text.takeWord("shut")) {
                    text.fail();
                }
                gate[line] = text.takeNumber(0, GATES - 1);
                step[line] = opens ? text.takeNumber(1, STEPS) : 0;
                if (text.takeWord("if")) {
                    tellAny(text, 0);
                }
                until[line] = size;
                lines = line + 1;
            }
            text.lineBegins(LINES);
        }

        Rule made() {
            return new Rule(lines, Arrays.copyOf(gate, lines), Arrays.copyOf(step, lines),
                    Arrays.copyOf(until, lines), Arrays.copyOf(code, size));
        }

        /** ATOMs joined by and, and those by or, in one loop: each half that waits is joined as soon as it can be. */
        private void tellAny(Text text, int deep) {
            boolean or = false;
            boolean and = false;
            for (int i = 0; i < TAPE_ROOM; i++) {
                tellAtom(text, deep);
                if (and) {
                    put(Rule.AND, 0);
                }
                and = text.takeWord("and");
                if (or && !and) {
                    put(Rule.OR, 0);
                }
                or = and ? or : text.takeWord("or");
                if (!or && !and) {
                    return;
                }
            }
        }

        private void tellAtom(Text text, int deep) {
            if (deep >= DEEPEST && (text.isWord("not") || text.isSign('('))) {
                text.fail();
            } else if (text.takeWord("not")) {
                tellAtom(text, deep + 1);
                put(Rule.NOT, 0);
            } else if (text.takeSign('(')) {
                tellAny(text, deep + 1);
                if (!text.takeSign(')')) {
                    text.fail();
                }
            } else if (text.takeWord("wet")) {
                put(Rule.WET, text.takeNumber(0, PLACES - 1));
            } else {
                tellSum(text);
                int kind = text.isSign('<') ? Rule.LESS : Rule.MORE;
                if (!text.takeSign('<') && !text.takeSign('>')) {
                    text.fail();
                }
                tellSum(text);
                put(kind, 0);
            }
        }

        private void tellSum(Text text) {
            boolean more = true;
            for (int i = 0; i < TAPE_ROOM && more; i++) {
                if (text.takeWord("level")) {
                    put(Rule.LEVEL, 0);
                } else if (text.takeWord("goal")) {
                    put(Rule.GOAL, 0);
                } else if (text.takeWord("quarter")) {
                    put(Rule.QUARTER, 0);
                } else if (text.takeWord("rain")) {
                    put(Rule.RAIN, 0);
                } else if (text.takeWord("depth")) {
                    put(Rule.DEPTH, text.takeNumber(0, REACHES - 1));
                } else if (text.takeWord("gate")) {
                    put(Rule.GATE, text.takeNumber(0, GATES - 1));
                } else {
                    put(Rule.NUMBER, text.takeNumber(0, GREATEST));
                }
                if (i > 0) {
                    put(Rule.ADD, 0);
                }
                more = text.takeSign('+');
            }
        }

        /** Each thing of a text puts one part at most, so that there is always room. */
        private void put(int kind, int of) {
            if (size < TAPE_ROOM) {
                code[size] = of << Rule.KIND_BITS | kind;
                size++;
            }
        }
    }

    /** PEOPLE, and the CALLS that may be heard by them. */
    private static final class People {
        int size = 0;
        final int[] place = new int[PEOPLE];
        final int[] from = new int[PEOPLE];
        final int[] till = new int[PEOPLE];
        final int[] hears = new int[PEOPLE];
        final int[] awake = new int[PEOPLE];
        final int[] sees = new int[PEOPLE];
        int calls = 0;
        final int[] callPlace = new int[CALLS];
        final int[] callQuarter = new int[CALLS];

        void takeFrom(People other) {
            size = other.size;
            copyRow(other.place, place);
            copyRow(other.from, from);
            copyRow(other.till, till);
            copyRow(other.hears, hears);
            copyRow(other.awake, awake);
            copyRow(other.sees, sees);
            calls = other.calls;
            copyRow(other.callPlace, callPlace);
            copyRow(other.callQuarter, callQuarter);
        }

        void addPerson(int at, int comes, int goes, int hearing, int wakes, int seeing) {
            place[size] = at;
            from[size] = comes;
            till[size] = goes;
            hears[size] = hearing;
            awake[size] = wakes;
            sees[size] = seeing;
            size++;
        }

        void addCall(int at, int quarter) {
            callPlace[calls] = at;
            callQuarter[calls] = quarter;
            calls++;
        }

        int callsOf(int at) {
            int many = 0;
            for (int i = 0; i < calls; i++) {
                if (callPlace[i] == at) {
                    many++;
                }
            }
            return many;
        }
    }

    /** All that THE IMAGE keeps. */
    private static final class Day {
        static final long HUNDREDTH = 1000000L;

        int texts = 0;
        final Gorge gorge = new Gorge();
        int openingCount = 0;
        final int[][] openings = new int[OPENINGS][GATES * QUARTERS];
        final People people = new People();
        int fearBound = 0;
        int fallBound = 999;
        int harmBound = 99999;
        int turbine = 0;
        int ruleCount = 0;
        final Rule[] rules = new Rule[RULES];
        int logs = 0;
        final int[] logPlace = new int[LOGS];
        final int[] logQuarter = new int[LOGS];
        final boolean[] logWet = new boolean[LOGS];

        void takeFrom(Day other) {
            texts = other.texts;
            gorge.takeFrom(other.gorge);
            openingCount = other.openingCount;
            for (int i = 0; i < OPENINGS; i++) {
                copyRow(other.openings[i], openings[i]);
            }
            people.takeFrom(other.people);
            fearBound = other.fearBound;
            fallBound = other.fallBound;
            harmBound = other.harmBound;
            turbine = other.turbine;
            // A RULE never changes once it is made, so both may hold the same one.
            ruleCount = other.ruleCount;
            for (int i = 0; i < RULES; i++) {
                rules[i] = other.rules[i];
            }
            logs = other.logs;
            copyRow(other.logPlace, logPlace);
            copyRow(other.logQuarter, logQuarter);
            for (int i = 0; i < LOGS; i++) {
                logWet[i] = other.logWet[i];
            }
        }

        void addLog(int place, int quarter, boolean wasWet) {
            logPlace[logs] = place;
            logQuarter[logs] = quarter;
            logWet[logs] = wasWet;
            logs++;
        }

        int logsMet(Flood flood) {
            int met = 0;
            for (int i = 0; i < logs; i++) {
                if (flood.isWet(gorge, logPlace[i], logQuarter[i]) == logWet[i]) {
                    met++;
                }
            }
            return met;
        }

        int judged(Flood flood, Danger danger) {
            if (flood.levelIn(gorge, gorge.by) > gorge.goal) {
                return 1;
            }
            danger.look(gorge, people, flood);
            if (danger.fearNow(people) > fearBound * HUNDREDTH) {
                return 2;
            }
            if (flood.fallsBeyond(gorge, fallBound)) {
                return 3;
            }
            return flood.harmDone(gorge) > harmBound ? 4 : 0;
        }
    }

    /** WATER by an OPENING, of all QUARTERS. */
    private static final class Flood {
        final int[] lake = new int[QUARTERS];
        final int[] letGo = new int[QUARTERS];
        final int[] gone = new int[QUARTERS];
        final int[][] waters = new int[REACHES][QUARTERS];
        final int[][] depths = new int[REACHES][QUARTERS];

        /** What lies ahead of the first QUARTER must stand from an earlier run. */
        void runFrom(Gorge gorge, int[] steps, int from, int moreRain) {
            for (int q = from; q < QUARTERS; q++) {
                runQuarter(gorge, steps, q, moreRain);
            }
        }

        void runQuarter(Gorge gorge, int[] steps, int q, int moreRain) {
            int lakeAhead = q == 0 ? gorge.water : lake[q - 1];
            letGo[q] = released(gorge, steps, q, lakeAhead);
            lake[q] = lakeAhead + gorge.rows[Gorge.INTO][q] - letGo[q];
            int rain = gorge.rows[Gorge.RAIN][q] + moreRain;
            int comes = letGo[q];
            for (int r = 0; r < gorge.reaches; r++) {
                int ahead = q == 0 ? 0 : waters[r][q - 1];
                int depthAhead = q == 0 ? 0 : depths[r][q - 1];
                int out = ahead * (depthAhead >= gorge.turn[r] ? gorge.quick[r] : gorge.slow[r]) / 100;
                waters[r][q] = ahead + comes - out + gorge.brook[r] * rain;
                depths[r][q] = share(waters[r][q], gorge.width[r]);
                comes = out;
            }
            gone[q] = comes + (q == 0 ? 0 : gone[q - 1]);
        }

        private static int released(Gorge gorge, int[] steps, int q, int lakeAhead) {
            int first = gorge.firstLevel();
            if (first <= 0) {
                return 0;
            }
            long levelAhead = share(lakeAhead, gorge.area);
            int left = lakeAhead;
            for (int g = 0; g < gorge.gates; g++) {
                long wanted = gorge.flowOf(g, steps[g * QUARTERS + q]) * levelAhead / first;
                left -= (int) Math.min(wanted, left);
            }
            return lakeAhead - left;
        }

        /** LEVEL behind a QUARTER; ahead of QUARTER 0, if it is below 0. */
        int levelIn(Gorge gorge, int quarter) {
            return quarter < 0 ? gorge.firstLevel() : share(lake[quarter], gorge.area);
        }

        int riseIn(int reach, int quarter) {
            return depths[reach][quarter] - (quarter == 0 ? 0 : depths[reach][quarter - 1]);
        }

        /** The first QUARTER of the greatest RISE (way 1) or FALL (way -1). */
        int greatestRise(int reach, int way) {
            int first = 0;
            for (int q = 1; q < QUARTERS; q++) {
                if (riseIn(reach, q) * way > riseIn(reach, first) * way) {
                    first = q;
                }
            }
            return first;
        }

        boolean fallsBeyond(Gorge gorge, int bound) {
            for (int r = 0; r < gorge.reaches; r++) {
                int[] row = depths[r];
                // The reaches are empty ahead of QUARTER 0: nothing can fall in it.
                for (int q = 1; q < QUARTERS; q++) {
                    if (row[q - 1] - row[q] > bound) {
                        return true;
                    }
                }
            }
            return false;
        }

        boolean isWet(Gorge gorge, int place, int quarter) {
            return depths[gorge.reachOf[place]][quarter] > gorge.dry[place];
        }

        int firstWet(Gorge gorge, int place, int from, int till) {
            int[] row = depths[gorge.reachOf[place]];
            for (int q = from; q <= till; q++) {
                if (row[q] > gorge.dry[place]) {
                    return q;
                }
            }
            return NONE;
        }

        int harmDone(Gorge gorge) {
            int sum = 0;
            for (int p = 0; p < gorge.places; p++) {
                if (firstWet(gorge, p, 0, QUARTERS - 1) != NONE) {
                    sum += gorge.harm[p];
                }
            }
            return sum;
        }
    }

    /** Who would be CAUGHT by a flood, and from when to when it would be IN TIME to go. */
    private static final class Danger {
        final int[] caughtIn = new int[PEOPLE];
        private final int[] timeFrom = new int[PEOPLE];
        private final int[] timeTill = new int[PEOPLE];
        private final boolean[] stays = new boolean[PEOPLE];
        private final int[] callsInTime = new int[PEOPLE];

        void look(Gorge gorge, People people, Flood flood) {
            for (int i = 0; i < people.size; i++) {
                int place = people.place[i];
                int from = people.from[i];
                boolean lost = flood.isWet(gorge, place, from);
                caughtIn[i] = lost ? NONE : flood.firstWet(gorge, place, from + 1, people.till[i]);
                timeFrom[i] = Math.max(from, people.awake[i]);
                timeTill[i] = caughtIn[i] - gorge.off[place];
                stays[i] = caughtIn[i] != NONE && !seesRise(i, people.sees[i], gorge.reachOf[place], flood);
                callsInTime[i] = stays[i] ? countCalls(people, i) : 0;
            }
        }

        private boolean seesRise(int person, int sees, int reach, Flood flood) {
            for (int q = timeFrom[person]; q <= timeTill[person]; q++) {
                if (flood.riseIn(reach, q) >= sees) {
                    return true;
                }
            }
            return false;
        }

        private int countCalls(People people, int person) {
            int many = 0;
            for (int c = 0; c < people.calls; c++) {
                if (isCalledInTime(people, person, c)) {
                    many++;
                }
            }
            return many;
        }

        private boolean isCalledInTime(People people, int person, int c) {
            return people.callPlace[c] == people.place[person] && isInTime(person, people.callQuarter[c]);
        }

        private boolean isInTime(int person, int quarter) {
            return quarter >= timeFrom[person] && quarter <= timeTill[person];
        }

        /** ODDS, with so many CALLS IN TIME more; four factors of hundredths make them whole. */
        long oddsWith(People people, int person, int more) {
            if (!stays[person]) {
                return 0;
            }
            long odds = 1;
            for (int i = 0; i < CALLS_OF_PLACE; i++) {
                odds *= i < callsInTime[person] + more ? 100 - people.hears[person] : 100;
            }
            return odds;
        }

        long fearNow(People people) {
            long sum = 0;
            for (int i = 0; i < people.size; i++) {
                sum += oddsWith(people, i, 0);
            }
            return sum;
        }

        /** FEAR, if each PLACE were called once more in the QUARTER that its row says (NONE: it is not). */
        long fearWith(People people, int[] calledIn) {
            long sum = 0;
            for (int i = 0; i < people.size; i++) {
                int quarter = calledIn[people.place[i]];
                sum += oddsWith(people, i, quarter != NONE && isInTime(i, quarter) ? 1 : 0);
            }
            return sum;
        }

        /** Who hears no CALL, by draws. */
        int drawnBits(People people, int seed) {
            int drawn = seed;
            int bits = 0;
            for (int i = 0; i < people.size; i++) {
                boolean hearsNone = stays[i];
                for (int c = 0; c < people.calls; c++) {
                    if (stays[i] && isCalledInTime(people, i, c)) {
                        drawn = drawn * 1103515245 + 12345;
                        if ((drawn >> 16 & 32767) % 100 < people.hears[i]) {
                            hearsNone = false;
                        }
                    }
                }
                if (hearsNone) {
                    bits |= 1 << i;
                }
            }
            return bits;
        }
    }

    /** Whom to call: one PLACE, or a set of them on a WARDEN's way. */
    private static final class Caller {
        static final int ORDERS = 720;

        long leastFear = 0;
        private int visits = 0;
        private final int[] order = new int[VISITS];
        private final int[] bestOrder = new int[VISITS];
        private final int[] calledIn = new int[PLACES];
        private int startReach = 0;
        private int startQuarter = 0;
        private int pace = 0;

        int placeToCall(Day day, Danger danger, int quarter) {
            Arrays.fill(calledIn, NONE);
            long least = danger.fearNow(day.people);
            int best = NONE;
            for (int p = 0; p < day.gorge.places; p++) {
                if (day.people.callsOf(p) < CALLS_OF_PLACE) {
                    calledIn[p] = quarter;
                    long fear = danger.fearWith(day.people, calledIn);
                    calledIn[p] = NONE;
                    if (fear < least) {
                        least = fear;
                        best = p;
                    }
                }
            }
            return best;
        }

        void setOut(int reach, int quarter, int quartersEach) {
            startReach = reach;
            startQuarter = quarter;
            pace = quartersEach;
        }

        void seekOrder(Day day, Danger danger, int set) {
            gather(set);
            boolean more = true;
            for (int i = 0; i < ORDERS && more; i++) {
                goRound(day);
                long fear = danger.fearWith(day.people, calledIn);
                if (i == 0 || fear < leastFear) {
                    leastFear = fear;
                    copyRow(order, bestOrder);
                }
                more = nextOrder();
            }
        }

        int visitOf(int k) {
            return k >= 0 && k < visits ? bestOrder[k] : NONE;
        }

        private void gather(int set) {
            visits = 0;
            for (int p = 0; p < PLACES && visits < VISITS; p++) {
                if ((set >> p & 1) != 0) {
                    order[visits] = p;
                    visits++;
                }
            }
        }

        private void goRound(Day day) {
            Arrays.fill(calledIn, NONE);
            int at = startReach;
            int quarter = startQuarter;
            for (int i = 0; i < visits; i++) {
                int place = order[i];
                quarter += pace * Math.abs(day.gorge.reachOf[place] - at);
                at = day.gorge.reachOf[place];
                if (quarter < QUARTERS && day.people.callsOf(place) < CALLS_OF_PLACE) {
                    calledIn[place] = quarter;
                }
            }
        }

        /** The next order by numbers; false, if there is none. */
        private boolean nextOrder() {
            int low = visits - 2;
            while (low >= 0 && order[low] > order[low + 1]) {
                low--;
            }
            if (low < 0) {
                return false;
            }
            int high = visits - 1;
            while (high > low + 1 && order[high] < order[low]) {
                high--;
            }
            swap(low, high);
            for (int i = low + 1, j = visits - 1; i < j; i++, j--) {
                swap(i, j);
            }
            return true;
        }

        private void swap(int i, int j) {
            int held = order[i];
            order[i] = order[j];
            order[j] = held;
        }
    }

    /** OPENINGS that are tried and not kept. */
    private static final class Trials {
        static final int MOST_RAIN = 9;
        static final int SLOWEST = 12;
        static final int BARS = 4;

        final Flood flood = new Flood();
        final Danger danger = new Danger();
        final int[] steps = new int[GATES * QUARTERS];
        int best = NONE;
        private final int[] judgedSo = new int[BARS + 1];

        /** QUARTERS are tried from the last one down: what lies ahead of one still stands from the trial before. */
        void tryGate(Day day, int gate) {
            Arrays.fill(judgedSo, 0);
            best = NONE;
            int leastHarm = 0;
            for (int s = 1; s <= day.gorge.steps[gate]; s++) {
                Arrays.fill(steps, 0);
                flood.runFrom(day.gorge, steps, 0, 0);
                for (int q = QUARTERS - 1; q >= 0; q--) {
                    steps[gate * QUARTERS + q] = s;
                    flood.runFrom(day.gorge, steps, q, 0);
                    int judged = day.judged(flood, danger);
                    judgedSo[judged]++;
                    if (judged == 0 && (best == NONE || flood.harmDone(day.gorge) < leastHarm)) {
                        leastHarm = flood.harmDone(day.gorge);
                        best = 100 * s + q;
                    }
                }
            }
        }

        int commonestBar() {
            if (judgedSo[0] > 0) {
                return 0;
            }
            int bar = 1;
            for (int i = 2; i <= BARS; i++) {
                if (judgedSo[i] > judgedSo[bar]) {
                    bar = i;
                }
            }
            return bar;
        }

        /** QUARTERS from the last one down, as above. */
        int warningWave(Day day, int[] told, int gate) {
            copyRow(told, steps);
            int opened = firstOpen(gate);
            flood.runFrom(day.gorge, steps, 0, 0);
            long least = fearOf(day);
            int wave = NONE;
            for (int s = 1; s <= day.gorge.steps[gate]; s++) {
                flood.runFrom(day.gorge, steps, 0, 0);
                for (int q = opened - 1; q >= 0; q--) {
                    steps[gate * QUARTERS + q] = s;
                    flood.runFrom(day.gorge, steps, q, 0);
                    steps[gate * QUARTERS + q] = 0;
                    long fear = fearOf(day);
                    if (fear < least) {
                        least = fear;
                        wave = 100 * s + q;
                    }
                }
            }
            return wave;
        }

        private int firstOpen(int gate) {
            for (int q = 0; q < QUARTERS; q++) {
                if (steps[gate * QUARTERS + q] > 0) {
                    return q;
                }
            }
            return NONE;
        }

        private long fearOf(Day day) {
            danger.look(day.gorge, day.people, flood);
            return danger.fearNow(day.people);
        }

        int mostRain(Day day, int[] told) {
            for (int more = MOST_RAIN; more >= 0; more--) {
                flood.runFrom(day.gorge, told, 0, more);
                if (day.judged(flood, danger) == 0) {
                    return more;
                }
            }
            return NONE;
        }

        int quickestClosing(Day day, int[] told, int gate, int quarter) {
            copyRow(told, steps);
            for (int each = 1; each <= SLOWEST; each++) {
                goStepwise(steps, gate, quarter, 0, each);
                flood.runFrom(day.gorge, steps, 0, 0);
                if (!flood.fallsBeyond(day.gorge, day.fallBound)) {
                    return each;
                }
            }
            return NONE;
        }

        /** Leaves the OPENING by which a RULE is FOLLOWED in the steps, and its WATER in the flood. */
        void obey(Day day, Rule rule) {
            Arrays.fill(steps, 0);
            for (int q = 0; q < QUARTERS; q++) {
                for (int g = 0; g < day.gorge.gates; g++) {
                    int says = rule.stepFor(g, day.gorge, flood, steps, q);
                    int ahead = q == 0 ? 0 : steps[g * QUARTERS + q - 1];
                    steps[g * QUARTERS + q] = says == NONE ? ahead : says;
                }
                flood.runQuarter(day.gorge, steps, q, 0);
            }
        }
    }

    /** HOURS: the QUARTERS in which a GATE is best open, in pieces that are long enough. */
    private static final class HourPlan {
        static final int ROW = QUARTERS + 1;

        int worth = NONE;
        int begins = NONE;
        private final int[] worthAhead = new int[ROW];
        /** By how many are still to come, and by QUARTERS: the most from there on, if a piece there may go on. */
        private final int[] goingOn = new int[ROW * ROW];

        void seek(int[] price, int used, int from, int many, int least) {
            for (int q = 0; q < QUARTERS; q++) {
                worthAhead[q + 1] = worthAhead[q] + price[q] * used;
            }
            for (int m = 0; m <= many; m++) {
                seekRow(m, from, least);
            }
        }

        /** Leaves the most worth of so many QUARTERS, and the least one that such a plan begins with. */
        private void seekRow(int many, int from, int least) {
            worth = many == 0 ? 0 : NONE;
            begins = NONE;
            goingOn[many * ROW + QUARTERS] = worth;
            for (int q = QUARTERS - 1; q >= from; q--) {
                int begun = openFor(least, many, q);
                if (begun != NONE && begun >= worth) {
                    worth = begun;
                    begins = q;
                }
                goingOn[many * ROW + q] = Math.max(worth, openFor(1, many, q));
            }
        }

        /** The most worth, if the next so many QUARTERS are open, and a piece may go on behind them. */
        private int openFor(int next, int many, int q) {
            if (next > many || q + next > QUARTERS) {
                return NONE;
            }
            int rest = goingOn[(many - next) * ROW + q + next];
            return rest == NONE ? NONE : rest + worthAhead[q + next] - worthAhead[q];
        }
    }
}
