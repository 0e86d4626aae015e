import java.util.ArrayList;
import java.util.List;
import java.util.function.Consumer;
import java.util.function.Supplier;
import java.util.function.ToLongFunction;

/**
 * A gorge that holds something of all, and people there, for calls that are refused: two of them are made, the call is
 * done on one alone, and then all that can be asked is asked of both.
 */
final class Village {
    static final int OPENINGS = 2;
    static final int GATES = 2;
    static final int REACHES = 2;
    static final int PLACES = 3;
    static final int PEOPLE = 4;
    static final int RULES = 2;

    private static final int[] QUARTERS = {0, 1, 2, 3, 5, 8, 13, 21, 40, 60, 95};
    private static final String LEFT = "gate 77 78";
    /** Some calls make the object, and it answers 512 at most: so many questions go to one. */
    private static final int QUESTIONS_OF_ONE = 350;

    final GorgeDay day = new GorgeDay();
    private final boolean faultAsked;
    private final List<String> names = new ArrayList<>();
    private final List<ToLongFunction<GorgeDay>> questions = new ArrayList<>();

    Village() {
        this(true, x -> { });
    }

    /** A village in which more has been done. */
    Village(Edges.Call more) {
        this(true, more);
    }

    /** A text is read in it: it uses the TAPE up, and is told by fault(). */
    static Village withoutTape() {
        return new Village(false, x -> { });
    }

    static Village withoutTape(Edges.Call more) {
        return new Village(false, more);
    }

    private Village(boolean textLeft, Edges.Call more) {
        faultAsked = textLeft;
        Edges.tape(day, "lake 10 1000 50 10;gate 100 200;gate 30;reach 10 10 50 20 1;reach 5 20 40 10 0").gorge();
        Edges.tape(day, "place 0 4 1 7;place 1 9 2 5;place 1 30 0 11;into 20 40 3;rain 5 9 2;price 0 95 2").gorge();
        day.open();
        day.step(0, 0, 0, 95, 1);
        day.open();
        day.slow(1, 0, 10, 2, 3);
        day.pulse(1, 1, 30, 1, 9, 3);
        day.person(1, 0, 9, 50, 0, 99);
        day.person(1, 0, 9, 30, 1, 50);
        day.person(0, 0, 3, 10, 0, 9);
        day.person(2, 0, 95, 77, 0, 99);
        day.call(1, 0);
        day.call(1, 1);
        day.call(2, 2);
        Edges.rule(day, "open 0 1 if level>60");
        Edges.rule(day, "open 1 1;shut 0");
        day.log(1, 3, true);
        day.log(0, 95, false);
        day.turbine(80);
        setTightBounds();
        day.image();
        day.step(1, 1, 60, 60, 1);
        more.on(day);
        Edges.tape(day, textLeft ? LEFT : "");
        askAll();
    }

    /** OPENING 0 is JUDGED 0, and would not be by any bound that is less. */
    private void setTightBounds() {
        int fall = Math.max(day.most(0, 0, true, false), day.most(0, 1, true, false));
        day.bounds((int) ((day.fear(0) + 999999) / 1000000), fall, day.harm(0));
    }

    // ---- what can be asked

    private void question(String name, ToLongFunction<GorgeDay> ask) {
        names.add(name);
        questions.add(ask);
    }

    private void askAll() {
        if (faultAsked) {
            question("fault", GorgeDay::fault);
        }
        askCounts();
        for (int o = 0; o < OPENINGS; o++) {
            askSteps(o);
            askWater(o);
            askPeople(o);
            askTrials(o);
        }
        askGates();
        askTape();
        askImage();
    }

    private void askCounts() {
        for (int what = 0; what <= 11; what++) {
            int w = what;
            question("count(" + w + ")", x -> x.count(w));
        }
    }

    private void askSteps(int o) {
        for (int g = 0; g < GATES; g++) {
            for (int q = 0; q < 96; q++) {
                int gate = g;
                int quarter = q;
                question("stepAt(" + o + ", " + g + ", " + q + ")", x -> x.stepAt(o, gate, quarter));
            }
        }
    }

    private void askWater(int o) {
        for (int quarter : QUARTERS) {
            question("lake(" + o + ") in " + quarter, x -> x.water(o, -1, quarter));
            question("level(" + o + ") in " + quarter, x -> x.level(o, quarter));
            question("let go(" + o + ") in " + quarter, x -> x.flow(o, quarter, false));
            question("gone(" + o + ") in " + quarter, x -> x.flow(o, quarter, true));
            question("whom(" + o + ") in " + quarter, x -> x.whom(o, quarter));
            for (int r = 0; r < REACHES; r++) {
                int reach = r;
                question("water(" + o + ", " + r + ") in " + quarter, x -> x.water(o, reach, quarter));
                question("depth(" + o + ", " + r + ") in " + quarter, x -> x.depth(o, reach, quarter));
            }
        }
        for (int p = 0; p < PLACES; p++) {
            int place = p;
            question("wet(" + o + ", " + p + ", 3)", x -> x.wet(o, place, 3) ? 1 : 0);
            question("latest(" + o + ", " + p + ")", x -> x.latest(o, place));
        }
        question("harm(" + o + ")", x -> x.harm(o));
        question("down(" + o + ")", x -> x.down(o));
        question("power(" + o + ")", x -> x.power(o));
    }

    private void askPeople(int o) {
        for (int i = 0; i < PEOPLE; i++) {
            int person = i;
            question("caught(" + o + ", " + i + ")", x -> x.caught(o, person));
            question("odds(" + o + ", " + i + ")", x -> x.odds(o, person));
            question("near(" + o + ", " + i + ")", x -> x.near(o, person));
        }
        for (int seed = 0; seed < 9; seed++) {
            int s = seed * 1234567;
            question("play(" + o + ", " + s + ")", x -> x.play(o, s));
        }
        question("fear(" + o + ")", x -> x.fear(o));
        question("like(" + o + ")", x -> x.like(o));
    }

    private void askTrials(int o) {
        question("judge(" + o + ")", x -> x.judge(o));
        question("warden(" + o + ")", x -> x.warden(o, 0, 0, 1, 7, -1));
        question("bears(" + o + ")", x -> x.bears(o));
        for (int g = 0; g < GATES; g++) {
            int gate = g;
            question("warns(" + o + ", " + g + ")", x -> x.warns(o, gate));
            question("closing(" + o + ", " + g + ")", x -> x.closing(o, gate, 40));
        }
    }

    private void askGates() {
        for (int g = 0; g < GATES; g++) {
            int gate = g;
            question("best(" + g + ")", x -> x.best(gate, false));
            question("bars(" + g + ")", x -> x.best(gate, true));
            question("hours(" + g + ")", x -> x.hours(gate, 1, 0, 9, 2, false));
        }
        for (int r = 0; r < RULES; r++) {
            int rule = r;
            question("keeps(" + r + ")", x -> x.keeps(rule));
        }
        question("likest", GorgeDay::likest);
    }

    private void askTape() {
        question("end behind the tape", x -> x.end((faultAsked ? LEFT.length() : 0) + 1) ? 1 : 0);
        // In one question, since it changes what is asked later.
        question("a text by what the tape holds", x -> {
            long answer = x.gorge() * 10 + x.count(1);
            if (faultAsked) {
                x.step(0, 2, 0, 0, 2);
            }
            return answer * 100000 + x.flow(0, 0, false);
        });
    }

    private void askImage() {
        question("the image", x -> {
            long answer = x.back() ? 1 : 0;
            for (int what = 0; what <= 11; what++) {
                answer = answer * 31 + x.count(what);
            }
            answer = answer * 31 + x.stepAt(1, 1, 60);
            answer = answer * 31 + x.fear(0);
            answer = answer * 31 + x.power(0);
            answer = answer * 31 + x.like(0);
            return answer * 310 + x.judge(0) * 10 + x.keeps(0);
        });
    }

    private String answerTo(int i) {
        try {
            return String.valueOf(questions.get(i).applyAsLong(day));
        } catch (RuntimeException e) {
            return e.getClass().getSimpleName();
        }
    }

    /** What another answer than without the call was given to; nothing, if there is none. */
    static String changeBy(Supplier<Village> of, Consumer<GorgeDay> call) {
        int many = of.get().questions.size();
        for (int from = 0; from < many; from += QUESTIONS_OF_ONE) {
            Village one = of.get();
            Village other = of.get();
            call.accept(one.day);
            for (int i = from; i < many && i < from + QUESTIONS_OF_ONE; i++) {
                String got = one.answerTo(i);
                String was = other.answerTo(i);
                if (!got.equals(was)) {
                    return ": " + one.names.get(i) + " answered " + got + ", was " + was;
                }
            }
        }
        return "";
    }
}
