import java.util.ArrayList;
import java.util.List;

/**
 * A second, slow way to the same answers, written from the document alone: it runs all water anew for each
 * question, tries every plan, and keeps conditions as trees. The class is held against it by random runs.
 */
final class GorgeModel {
    static final int NONE = -1;

    /** Thrown inside a reading, with the first wrong byte. */
    private static final class Wrong extends Exception {
        private static final long serialVersionUID = 1L;
        final int at;

        Wrong(int at) {
            this.at = at;
        }
    }

    private static final class Token {
        String word = "";
        int at;
        boolean number;
        boolean last;
    }

    private static final class Reach {
        int width;
        int slow;
        int quick;
        int turn;
        int brook;
    }

    private static final class Place {
        int reach;
        int dry;
        int off;
        int harm;
    }

    private static final class Person {
        int place;
        int from;
        int till;
        int hears;
        int awake;
        int sees;
    }

    private static final class Line {
        int gate;
        int step;
        Node holds;
    }

    private static final class Node {
        final String kind;
        final int n;
        final Node left;
        final Node right;

        Node(String kind, int n, Node left, Node right) {
            this.kind = kind;
            this.n = n;
            this.left = left;
            this.right = right;
        }
    }

    /** All that an image keeps; lists are copied when it is kept and when it is gone back to. */
    private static final class State {
        int texts;
        int area = 1;
        int water;
        int goal;
        int by = 95;
        int[] into = new int[96];
        int[] rain = new int[96];
        int[] price = new int[96];
        List<int[]> gates = new ArrayList<>();
        List<Reach> reaches = new ArrayList<>();
        List<Place> places = new ArrayList<>();
        List<int[][]> openings = new ArrayList<>();
        List<Person> people = new ArrayList<>();
        List<int[]> calls = new ArrayList<>();
        List<List<Line>> rules = new ArrayList<>();
        List<int[]> logs = new ArrayList<>();
        int fearBound;
        int fallBound = 999;
        int harmBound = 99999;
        int turbine;

        State twin() {
            State t = new State();
            t.texts = texts;
            t.area = area;
            t.water = water;
            t.goal = goal;
            t.by = by;
            t.into = into.clone();
            t.rain = rain.clone();
            t.price = price.clone();
            t.gates = new ArrayList<>(gates);
            t.reaches = new ArrayList<>(reaches);
            t.places = new ArrayList<>(places);
            for (int[][] o : openings) {
                t.openings.add(twinOf(o));
            }
            t.people = new ArrayList<>(people);
            t.calls = new ArrayList<>(calls);
            t.rules = new ArrayList<>(rules);
            t.logs = new ArrayList<>(logs);
            t.fearBound = fearBound;
            t.fallBound = fallBound;
            t.harmBound = harmBound;
            t.turbine = turbine;
            return t;
        }
    }

    /** What a run of the water leaves; index q + 1 is behind QUARTER q, index 0 ahead of all. */
    private static final class Run {
        long[] lake = new long[97];
        long[] letGo = new long[97];
        long[] gone = new long[97];
        long[][] water = new long[97][8];
        long[][] depth = new long[97][8];
    }

    private State s = new State();
    private State image = null;
    private final StringBuilder tape = new StringBuilder();
    private int fault = NONE;

    private static int[][] twinOf(int[][] o) {
        int[][] t = new int[4][];
        for (int g = 0; g < 4; g++) {
            t[g] = o[g].clone();
        }
        return t;
    }

    // ---- texts

    int feed(int a, int b, int c, int d, int e) {
        if (tape.length() + 20 > 400) {
            return NONE;
        }
        for (int n : new int[] {a, b, c, d, e}) {
            tape.append((char) (n >>> 24)).append((char) (n >> 16 & 255)).append((char) (n >> 8 & 255));
            tape.append((char) (n & 255));
        }
        return tape.length();
    }

    boolean end(int n) {
        if (n < 0 || n > tape.length()) {
            return false;
        }
        tape.setLength(n);
        return true;
    }

    int fault() {
        return fault;
    }

    private static List<Token> tokens(String text) {
        List<Token> all = new ArrayList<>();
        int i = 0;
        while (true) {
            while (i < text.length() && text.charAt(i) == 32) {
                i++;
            }
            Token t = new Token();
            t.at = i;
            all.add(t);
            if (i == text.length()) {
                t.last = true;
                return all;
            }
            int j = i;
            while (j < text.length() && text.substring(i, j + 1).matches("[0-9]+")) {
                j++;
            }
            t.number = j > i;
            while (!t.number && j < text.length() && text.substring(i, j + 1).matches("[a-z]+")) {
                j++;
            }
            j = Math.max(j, i + 1);
            t.word = text.substring(i, j);
            i = j;
        }
    }

    private List<Token> things;
    private int at;

    private Token thing() {
        return things.get(at);
    }

    private Wrong wrong() {
        return new Wrong(thing().at);
    }

    private boolean sees(String word) {
        return thing().word.equals(word);
    }

    private int number(int least, int most) throws Wrong {
        Token t = thing();
        if (!t.number || t.word.length() > 6 || Integer.parseInt(t.word) < least || Integer.parseInt(t.word) > most) {
            throw wrong();
        }
        at++;
        return Integer.parseInt(t.word);
    }

    /** Splits nothing: goes LINE by LINE over the things of the text that the TAPE held. */
    private void readLines(boolean ofGorge, State to, List<Line> rule) throws Wrong {
        things = tokens(tape.toString());
        at = 0;
        tape.setLength(0);
        int lines = 0;
        while (!(lines == 0 && thing().last)) {
            lines++;
            if (lines == 13) {
                throw wrong();
            }
            if (ofGorge) {
                gorgeLine(to);
            } else {
                ruleLine(rule);
            }
            if (thing().last) {
                return;
            }
            if (!sees(";")) {
                throw wrong();
            }
            at++;
        }
    }

    private void gorgeLine(State to) throws Wrong {
        String word = thing().word;
        boolean full = word.equals("gate") && to.gates.size() == 4 || word.equals("reach") && to.reaches.size() == 8
                || word.equals("place") && to.places.size() == 12;
        if (full || !word.matches("lake|into|gate|reach|place|rain|price")) {
            throw wrong();
        }
        at++;
        if (word.equals("lake")) {
            to.area = number(1, 9999);
            to.water = number(0, 999999);
            to.goal = number(0, 9999);
            to.by = number(0, 95);
        } else if (word.equals("gate")) {
            List<Integer> flows = new ArrayList<>();
            flows.add(0);
            flows.add(number(0, 9999));
            while (flows.size() < 7 && thing().number) {
                flows.add(number(0, 9999));
            }
            to.gates.add(flows.stream().mapToInt(x -> x).toArray());
        } else if (word.equals("reach")) {
            Reach r = new Reach();
            r.width = number(1, 999);
            r.slow = number(0, 100);
            r.quick = number(0, 100);
            r.turn = number(0, 999);
            r.brook = number(0, 99);
            to.reaches.add(r);
        } else if (word.equals("place")) {
            Place p = new Place();
            p.reach = number(0, to.reaches.size() - 1);
            p.dry = number(0, 999);
            p.off = number(0, 12);
            p.harm = number(0, 999);
            to.places.add(p);
        } else {
            int[] row = word.equals("into") ? to.into : word.equals("rain") ? to.rain : to.price;
            int from = number(0, 95);
            int till = number(from, 95);
            int n = number(0, word.equals("into") ? 9999 : word.equals("rain") ? 9 : 99);
            for (int q = from; q <= till; q++) {
                row[q] = n;
            }
        }
    }

    int gorge() {
        State to = s.twin();
        fault = NONE;
        try {
            readLines(true, to, null);
        } catch (Wrong w) {
            fault = w.at;
            throw new IllegalArgumentException();
        }
        if (s.texts == 12) {
            throw new UnsupportedOperationException();
        }
        s = to;
        s.texts++;
        return s.texts;
    }

    private void ruleLine(List<Line> rule) throws Wrong {
        Line line = new Line();
        boolean opens = sees("open");
        if (!opens && !sees("shut")) {
            throw wrong();
        }
        at++;
        line.gate = number(0, 3);
        line.step = opens ? number(1, 6) : 0;
        if (sees("if")) {
            at++;
            line.holds = any(0);
        }
        rule.add(line);
    }

    private Node any(int deep) throws Wrong {
        Node left = all(deep);
        while (sees("or")) {
            at++;
            left = new Node("or", 0, left, all(deep));
        }
        return left;
    }

    private Node all(int deep) throws Wrong {
        Node left = atom(deep);
        while (sees("and")) {
            at++;
            left = new Node("and", 0, left, atom(deep));
        }
        return left;
    }

    private Node atom(int deep) throws Wrong {
        if (sees("not") || sees("(")) {
            if (deep == 6) {
                throw wrong();
            }
            boolean not = sees("not");
            at++;
            if (not) {
                return new Node("not", 0, atom(deep + 1), null);
            }
            Node inner = any(deep + 1);
            if (!sees(")")) {
                throw wrong();
            }
            at++;
            return inner;
        }
        if (sees("wet")) {
            at++;
            return new Node("wet", number(0, 11), null, null);
        }
        Node left = sum();
        String sign = thing().word;
        if (!sign.equals("<") && !sign.equals(">")) {
            throw wrong();
        }
        at++;
        return new Node(sign, 0, left, sum());
    }

    private Node sum() throws Wrong {
        Node left = part();
        while (sees("+")) {
            at++;
            left = new Node("+", 0, left, part());
        }
        return left;
    }

    private Node part() throws Wrong {
        Token t = thing();
        if (t.number) {
            return new Node("number", number(0, 999999), null, null);
        }
        if (!t.word.matches("level|goal|quarter|rain|depth|gate")) {
            throw wrong();
        }
        at++;
        int n = t.word.equals("depth") ? number(0, 7) : t.word.equals("gate") ? number(0, 3) : 0;
        return new Node(t.word, n, null, null);
    }

    int rule() {
        List<Line> rule = new ArrayList<>();
        fault = NONE;
        try {
            readLines(false, null, rule);
        } catch (Wrong w) {
            fault = w.at;
            throw new IllegalArgumentException();
        }
        if (s.rules.size() == 4) {
            throw new UnsupportedOperationException();
        }
        s.rules.add(rule);
        return s.rules.size() - 1;
    }

    // ---- checks

    private static void index(boolean... there) {
        for (boolean b : there) {
            if (!b) {
                throw new IndexOutOfBoundsException();
            }
        }
    }

    private static void argument(boolean right) {
        if (!right) {
            throw new IllegalArgumentException();
        }
    }

    private static void room(boolean is) {
        if (!is) {
            throw new UnsupportedOperationException();
        }
    }

    private boolean isOpening(int o) {
        return o >= 0 && o < s.openings.size();
    }

    private boolean isGate(int g) {
        return g >= 0 && g < s.gates.size();
    }

    private boolean isReach(int r) {
        return r >= 0 && r < s.reaches.size();
    }

    private boolean isPlace(int p) {
        return p >= 0 && p < s.places.size();
    }

    private boolean isPerson(int p) {
        return p >= 0 && p < s.people.size();
    }

    private static boolean isQuarter(int q) {
        return q >= 0 && q <= 95;
    }

    private static boolean in(int n, int least, int most) {
        return n >= least && n <= most;
    }

    // ---- openings

    int open() {
        room(s.openings.size() < 6);
        s.openings.add(new int[4][96]);
        return s.openings.size() - 1;
    }

    int copy(int o) {
        index(isOpening(o));
        room(s.openings.size() < 6);
        s.openings.add(twinOf(s.openings.get(o)));
        return s.openings.size() - 1;
    }

    void step(int o, int g, int from, int to, int n) {
        index(isOpening(o), isGate(g), isQuarter(from), isQuarter(to));
        argument(to >= from && in(n, 0, 6));
        for (int q = from; q <= to; q++) {
            s.openings.get(o)[g][q] = n;
        }
    }

    void slow(int o, int g, int from, int n, int each) {
        index(isOpening(o), isGate(g), isQuarter(from));
        argument(in(n, 0, 6) && in(each, 1, 96));
        slowly(s.openings.get(o)[g], from, n, each);
    }

    private static void slowly(int[] row, int from, int n, int each) {
        int first = from == 0 ? 0 : row[from - 1];
        for (int q = from; q < 96; q++) {
            int moves = 1 + (q - from) / each;
            row[q] = first < n ? Math.min(n, first + moves) : Math.max(n, first - moves);
        }
    }

    void pulse(int o, int g, int from, int n, int lasts, int wait) {
        index(isOpening(o), isGate(g), isQuarter(from));
        argument(in(n, 0, 6) && in(lasts, 1, 96) && in(wait, 0, 96));
        for (int q = from; q < 96 && q < from + lasts + wait; q++) {
            s.openings.get(o)[g][q] = q < from + lasts ? n : 0;
        }
    }

    int stepAt(int o, int g, int q) {
        index(isOpening(o), isGate(g), isQuarter(q));
        return s.openings.get(o)[g][q];
    }

    // ---- water

    private Run run(int[][] steps, int moreRain) {
        Run r = new Run();
        r.lake[0] = s.water;
        for (int q = 0; q < 96; q++) {
            runOne(r, steps, q, moreRain);
        }
        return r;
    }

    private void runOne(Run r, int[][] steps, int q, int moreRain) {
        long left = r.lake[q];
        long firstLevel = s.water / s.area;
        long levelNow = r.lake[q] / s.area;
        long all = 0;
        for (int g = 0; g < s.gates.size(); g++) {
            int[] flows = s.gates.get(g);
            long flow = flows[Math.min(steps[g][q], flows.length - 1)];
            long go = firstLevel == 0 ? 0 : Math.min(flow * levelNow / firstLevel, left);
            left -= go;
            all += go;
        }
        long[] out = new long[8];
        for (int i = 0; i < s.reaches.size(); i++) {
            Reach reach = s.reaches.get(i);
            out[i] = r.water[q][i] * (r.depth[q][i] >= reach.turn ? reach.quick : reach.slow) / 100;
        }
        r.letGo[q + 1] = all;
        r.lake[q + 1] = r.lake[q] + s.into[q] - all;
        for (int i = 0; i < s.reaches.size(); i++) {
            Reach reach = s.reaches.get(i);
            long more = i == 0 ? all : out[i - 1];
            r.water[q + 1][i] = r.water[q][i] + more - out[i] + reach.brook * (s.rain[q] + moreRain);
            r.depth[q + 1][i] = r.water[q + 1][i] / reach.width;
        }
        r.gone[q + 1] = r.gone[q] + (s.reaches.isEmpty() ? all : out[s.reaches.size() - 1]);
    }

    private Run run(int o) {
        return run(s.openings.get(o), 0);
    }

    int water(int o, int reach, int q) {
        index(isOpening(o), reach == NONE || isReach(reach), isQuarter(q));
        return (int) (reach == NONE ? run(o).lake[q + 1] : run(o).water[q + 1][reach]);
    }

    int level(int o, int q) {
        index(isOpening(o), isQuarter(q));
        return (int) run(o).lake[q + 1] / s.area;
    }

    int depth(int o, int reach, int q) {
        index(isOpening(o), isReach(reach), isQuarter(q));
        return (int) run(o).depth[q + 1][reach];
    }

    int flow(int o, int q, boolean gone) {
        index(isOpening(o), isQuarter(q));
        return (int) (gone ? run(o).gone[q + 1] : run(o).letGo[q + 1]);
    }

    int most(int o, int reach, boolean falls, boolean when) {
        index(isOpening(o), isReach(reach));
        Run r = run(o);
        long greatest = Long.MIN_VALUE;
        int first = 0;
        for (int q = 0; q < 96; q++) {
            long rise = r.depth[q + 1][reach] - r.depth[q][reach];
            long n = falls ? -rise : rise;
            if (n > greatest) {
                greatest = n;
                first = q;
            }
        }
        return when ? first : (int) greatest;
    }

    private boolean isWet(Run r, int place, int q) {
        Place p = s.places.get(place);
        return r.depth[q + 1][p.reach] > p.dry;
    }

    boolean wet(int o, int place, int q) {
        index(isOpening(o), isPlace(place), isQuarter(q));
        return isWet(run(o), place, q);
    }

    private int harmOf(Run r) {
        int sum = 0;
        for (int p = 0; p < s.places.size(); p++) {
            boolean some = false;
            for (int q = 0; q < 96; q++) {
                some |= isWet(r, p, q);
            }
            sum += some ? s.places.get(p).harm : 0;
        }
        return sum;
    }

    int harm(int o) {
        index(isOpening(o));
        return harmOf(run(o));
    }

    int down(int o) {
        index(isOpening(o));
        Run r = run(o);
        for (int q = 0; q < 96; q++) {
            if (r.lake[q + 1] / s.area <= s.goal) {
                return q;
            }
        }
        return NONE;
    }

    int latest(int o, int place) {
        index(isOpening(o), isPlace(place));
        Run r = run(o);
        for (int q = 0; q < 96; q++) {
            if (isWet(r, place, q)) {
                return q - s.places.get(place).off;
            }
        }
        return 99;
    }

    // ---- people

    int person(int place, int from, int till, int hears, int awake, int sees) {
        index(isPlace(place), isQuarter(from), isQuarter(till), isQuarter(awake));
        argument(till >= from && in(hears, 0, 100) && in(sees, 1, 99));
        room(s.people.size() < 10);
        Person p = new Person();
        p.place = place;
        p.from = from;
        p.till = till;
        p.hears = hears;
        p.awake = awake;
        p.sees = sees;
        s.people.add(p);
        return s.people.size() - 1;
    }

    private int callsOf(int place) {
        int n = 0;
        for (int[] c : s.calls) {
            n += c[0] == place ? 1 : 0;
        }
        return n;
    }

    int call(int place, int q) {
        index(isPlace(place), isQuarter(q));
        room(s.calls.size() < 24 && callsOf(place) < 4);
        s.calls.add(new int[] {place, q});
        return s.calls.size();
    }

    int calls() {
        int n = s.calls.size();
        s.calls.clear();
        return n;
    }

    private int caughtBy(Run r, Person p) {
        if (isWet(r, p.place, p.from)) {
            return NONE;
        }
        for (int q = p.from + 1; q <= p.till; q++) {
            if (isWet(r, p.place, q)) {
                return q;
            }
        }
        return NONE;
    }

    private boolean inTime(Run r, Person p, int q) {
        return q >= p.from && q >= p.awake && q + s.places.get(p.place).off <= caughtBy(r, p);
    }

    private boolean standsStill(Run r, Person p) {
        if (caughtBy(r, p) == NONE) {
            return false;
        }
        int reach = s.places.get(p.place).reach;
        for (int q = 0; q < 96; q++) {
            if (inTime(r, p, q) && r.depth[q + 1][reach] - r.depth[q][reach] >= p.sees) {
                return false;
            }
        }
        return true;
    }

    private long oddsOf(Run r, Person p, List<int[]> calls) {
        if (!standsStill(r, p)) {
            return 0;
        }
        long odds = 100000000;
        for (int[] c : calls) {
            if (c[0] == p.place && inTime(r, p, c[1])) {
                odds = odds / 100 * (100 - p.hears);
            }
        }
        return odds;
    }

    private long fearOf(Run r, List<int[]> calls) {
        long sum = 0;
        for (Person p : s.people) {
            sum += oddsOf(r, p, calls);
        }
        return sum;
    }

    int caught(int o, int person) {
        index(isOpening(o), isPerson(person));
        return caughtBy(run(o), s.people.get(person));
    }

    long odds(int o, int person) {
        index(isOpening(o), isPerson(person));
        return oddsOf(run(o), s.people.get(person), s.calls);
    }

    long fear(int o) {
        index(isOpening(o));
        return fearOf(run(o), s.calls);
    }

    void bounds(int fear, int fall, int harm) {
        argument(in(fear, 0, 1000) && in(fall, 0, 999) && in(harm, 0, 99999));
        s.fearBound = fear;
        s.fallBound = fall;
        s.harmBound = harm;
    }

    private boolean fallsTooMuch(Run r) {
        for (int q = 0; q < 96; q++) {
            for (int i = 0; i < s.reaches.size(); i++) {
                if (r.depth[q][i] - r.depth[q + 1][i] > s.fallBound) {
                    return true;
                }
            }
        }
        return false;
    }

    private int judgeOf(Run r) {
        if (r.lake[s.by + 1] / s.area > s.goal) {
            return 1;
        }
        if (fearOf(r, s.calls) > 1000000L * s.fearBound) {
            return 2;
        }
        return fallsTooMuch(r) ? 3 : harmOf(r) > s.harmBound ? 4 : 0;
    }

    int judge(int o) {
        index(isOpening(o));
        return judgeOf(run(o));
    }

    int best(int gate, boolean bars) {
        index(isGate(gate));
        int[] judged = new int[5];
        int best = NONE;
        int bestHarm = 0;
        for (int step = 1; step < s.gates.get(gate).length; step++) {
            for (int q = 0; q < 96; q++) {
                int[][] steps = new int[4][96];
                for (int i = q; i < 96; i++) {
                    steps[gate][i] = step;
                }
                Run r = run(steps, 0);
                int j = judgeOf(r);
                judged[j]++;
                int harm = harmOf(r);
                boolean better = best == NONE || harm < bestHarm || harm == bestHarm && best / 100 == step;
                if (j == 0 && better) {
                    best = 100 * step + q;
                    bestHarm = harm;
                }
            }
        }
        if (!bars) {
            return best;
        }
        int bar = 0;
        for (int j = 4; j >= 1; j--) {
            bar = bar == 0 || judged[j] >= judged[bar] ? j : bar;
        }
        return judged[0] > 0 ? 0 : bar;
    }

    int whom(int o, int q) {
        index(isOpening(o), isQuarter(q));
        Run r = run(o);
        int best = NONE;
        long least = fearOf(r, s.calls);
        for (int p = 0; p < s.places.size(); p++) {
            List<int[]> calls = new ArrayList<>(s.calls);
            calls.add(new int[] {p, q});
            long fear = fearOf(r, calls);
            if (callsOf(p) < 4 && fear < least) {
                least = fear;
                best = p;
            }
        }
        return best;
    }

    private long wardenFear;
    private List<Integer> wardenOrder;

    private void orders(Run r, int[] start, List<Integer> so, List<Integer> rest) {
        if (rest.isEmpty()) {
            List<int[]> calls = new ArrayList<>(s.calls);
            int at = start[0];
            int q = start[1];
            for (int p : so) {
                int reach = s.places.get(p).reach;
                q += start[2] * Math.abs(reach - at);
                at = reach;
                if (q <= 95 && callsOf(p) < 4) {
                    calls.add(new int[] {p, q});
                }
            }
            long fear = fearOf(r, calls);
            if (wardenOrder == null || fear < wardenFear) {
                wardenFear = fear;
                wardenOrder = new ArrayList<>(so);
            }
        }
        for (Integer p : rest) {
            List<Integer> longer = new ArrayList<>(so);
            longer.add(p);
            List<Integer> fewer = new ArrayList<>(rest);
            fewer.remove(p);
            orders(r, start, longer, fewer);
        }
    }

    long warden(int o, int reach, int q, int pace, int set, int k) {
        index(isOpening(o), isReach(reach), isQuarter(q));
        List<Integer> places = new ArrayList<>();
        for (int p = 0; p < s.places.size(); p++) {
            if ((set & 1 << p) != 0) {
                places.add(p);
            }
        }
        argument(in(pace, 0, 9) && places.size() <= 6 && k >= NONE);
        wardenOrder = null;
        orders(run(o), new int[] {reach, q, pace}, new ArrayList<>(), places);
        return k == NONE ? wardenFear : k < places.size() ? wardenOrder.get(k) : NONE;
    }

    int warns(int o, int gate) {
        index(isOpening(o), isGate(gate));
        int[][] told = s.openings.get(o);
        int first = 0;
        while (first < 96 && told[gate][first] == 0) {
            first++;
        }
        if (first == 96) {
            return NONE;
        }
        long least = fearOf(run(told, 0), s.calls);
        int best = NONE;
        for (int step = 1; step < s.gates.get(gate).length; step++) {
            for (int q = 0; q < first; q++) {
                int[][] steps = twinOf(told);
                steps[gate][q] = step;
                long fear = fearOf(run(steps, 0), s.calls);
                if (fear < least || fear == least && best / 100 == step) {
                    least = fear;
                    best = 100 * step + q;
                }
            }
        }
        return best;
    }

    int bears(int o) {
        index(isOpening(o));
        int most = NONE;
        for (int n = 0; n <= 9; n++) {
            most = judgeOf(run(s.openings.get(o), n)) == 0 ? n : most;
        }
        return most;
    }

    int closing(int o, int gate, int q) {
        index(isOpening(o), isGate(gate), isQuarter(q));
        for (int n = 1; n <= 12; n++) {
            int[][] steps = twinOf(s.openings.get(o));
            slowly(steps[gate], q, 0, n);
            if (!fallsTooMuch(run(steps, 0))) {
                return n;
            }
        }
        return NONE;
    }

    // ---- power

    void turbine(int n) {
        argument(in(n, 0, 9999));
        s.turbine = n;
    }

    long power(int o) {
        index(isOpening(o));
        Run r = run(o);
        long sum = 0;
        for (int q = 0; q < 96; q++) {
            sum += Math.min(r.letGo[q + 1], s.turbine) * s.price[q];
        }
        return sum;
    }

    /** Goes forward, with the length of the piece so far (up to what is enough) as part of where one stands. */
    private long hoursFrom(int[] worth, int from, int many, int least) {
        long[][] now = new long[many + 1][least + 1];
        for (long[] row : now) {
            java.util.Arrays.fill(row, Long.MIN_VALUE);
        }
        now[0][0] = 0;
        for (int q = from; q < 96; q++) {
            long[][] then = new long[many + 1][least + 1];
            for (long[] row : then) {
                java.util.Arrays.fill(row, Long.MIN_VALUE);
            }
            for (int m = 0; m <= many; m++) {
                for (int length = 0; length <= least; length++) {
                    long n = now[m][length];
                    if (n == Long.MIN_VALUE) {
                        continue;
                    }
                    if (length == 0 || length == least) {
                        then[m][0] = Math.max(then[m][0], n);
                    }
                    if (m < many) {
                        int longer = Math.min(least, length + 1);
                        then[m + 1][longer] = Math.max(then[m + 1][longer], n + worth[q]);
                    }
                }
            }
            now = then;
        }
        return Math.max(now[many][0], now[many][least]);
    }

    long hours(int gate, int step, int quarter, int many, int least, boolean first) {
        index(isGate(gate), isQuarter(quarter));
        argument(in(step, 0, 6) && in(many, 0, 96) && in(least, 1, 96));
        int[] flows = s.gates.get(gate);
        int[] worth = new int[96];
        for (int q = 0; q < 96; q++) {
            worth[q] = Math.min(flows[Math.min(step, flows.length - 1)], s.turbine) * s.price[q];
        }
        long most = hoursFrom(worth, quarter, many, least);
        if (most == Long.MIN_VALUE || first && many == 0) {
            return NONE;
        }
        // A plan that begins with q is one that can be done from q on, and not any more from q + 1 on.
        int begins = quarter;
        while (first && begins < 95 && !beginsWith(worth, begins, many, least, most)) {
            begins++;
        }
        return first ? begins : most;
    }

    private boolean beginsWith(int[] worth, int q, int many, int least, long most) {
        int[] dear = worth.clone();
        dear[q] += 1000000000;
        return hoursFrom(dear, q, many, least) == most + 1000000000L;
    }

    // ---- rules

    private int[][] followed(List<Line> rule, Run r) {
        int[][] steps = new int[4][96];
        r.lake[0] = s.water;
        for (int q = 0; q < 96; q++) {
            for (int g = 0; g < s.gates.size(); g++) {
                steps[g][q] = q == 0 ? 0 : steps[g][q - 1];
                for (Line line : rule) {
                    if (line.gate == g && (line.holds == null || value(line.holds, r, steps, q) == 1)) {
                        steps[g][q] = line.step;
                        break;
                    }
                }
            }
            runOne(r, steps, q, 0);
        }
        return steps;
    }

    private long value(Node n, Run r, int[][] steps, int q) {
        switch (n.kind) {
            case "or": return Math.max(value(n.left, r, steps, q), value(n.right, r, steps, q));
            case "and": return Math.min(value(n.left, r, steps, q), value(n.right, r, steps, q));
            case "not": return value(n.left, r, steps, q) == 1 ? 0 : 1;
            case "<": return value(n.left, r, steps, q) < value(n.right, r, steps, q) ? 1 : 0;
            case ">": return value(n.left, r, steps, q) > value(n.right, r, steps, q) ? 1 : 0;
            case "+": return value(n.left, r, steps, q) + value(n.right, r, steps, q);
            case "number": return n.n;
            case "level": return r.lake[q] / s.area;
            case "goal": return s.goal;
            case "quarter": return q;
            case "rain": return s.rain[q];
            case "depth": return isReach(n.n) ? r.depth[q][n.n] : 0;
            case "gate": return isGate(n.n) && q > 0 ? steps[n.n][q - 1] : 0;
            default: return q > 0 && isPlace(n.n) && isWet(r, n.n, q - 1) ? 1 : 0;
        }
    }

    int follow(int rule) {
        index(rule >= 0 && rule < s.rules.size());
        room(s.openings.size() < 6);
        s.openings.add(followed(s.rules.get(rule), new Run()));
        return s.openings.size() - 1;
    }

    int keeps(int rule) {
        index(rule >= 0 && rule < s.rules.size());
        return judgeOf(run(followed(s.rules.get(rule), new Run()), 0));
    }

    // ---- log, near, play, image, count

    int log(int place, int q, boolean wet) {
        index(isPlace(place), isQuarter(q));
        room(s.logs.size() < 16);
        s.logs.add(new int[] {place, q, wet ? 1 : 0});
        return s.logs.size();
    }

    int like(int o) {
        index(isOpening(o));
        Run r = run(o);
        int n = 0;
        for (int[] entry : s.logs) {
            n += isWet(r, entry[0], entry[1]) == (entry[2] == 1) ? 1 : 0;
        }
        return n;
    }

    int likest() {
        int best = NONE;
        for (int o = s.openings.size() - 1; o >= 0; o--) {
            best = best == NONE || like(o) >= like(best) ? o : best;
        }
        return best;
    }

    int near(int o, int person) {
        index(isOpening(o), isPerson(person));
        Run r = run(o);
        Person p = s.people.get(person);
        int least = 99;
        for (int q = p.from; q <= p.till; q++) {
            for (int w = 0; w < 96; w++) {
                least = isWet(r, p.place, w) ? Math.min(least, Math.abs(q - w)) : least;
            }
        }
        return least;
    }

    int play(int o, int seed) {
        index(isOpening(o));
        Run r = run(o);
        long drawn = seed;
        int bits = 0;
        for (int i = 0; i < s.people.size(); i++) {
            Person p = s.people.get(i);
            if (!standsStill(r, p)) {
                continue;
            }
            int heard = 0;
            for (int[] c : s.calls) {
                if (c[0] == p.place && inTime(r, p, c[1])) {
                    drawn = drawn * 1103515245L + 12345 & 0xffffffffL;
                    heard += (drawn >> 16 & 0x7fff) % 100 < p.hears ? 1 : 0;
                }
            }
            bits |= heard == 0 ? 1 << i : 0;
        }
        return bits;
    }

    void image() {
        image = s.twin();
    }

    boolean back() {
        if (image == null) {
            return false;
        }
        s = image.twin();
        return true;
    }

    int count(int what) {
        int inflow = 0;
        for (int n : s.into) {
            inflow += n;
        }
        int[] all = {s.texts, s.gates.size(), s.reaches.size(), s.places.size(), s.openings.size(), s.people.size(),
            s.calls.size(), s.rules.size(), s.logs.size(), s.water / s.area, inflow, s.turbine};
        return what >= 0 && what < all.length ? all[what] : NONE;
    }
}
