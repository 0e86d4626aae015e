import java.lang.reflect.InvocationTargetException;
import java.lang.reflect.Method;
import java.util.ArrayList;
import java.util.HashMap;
import java.util.List;
import java.util.Map;
import java.util.Random;

/** Random runs of calls, by seeds that stay the same: the class must answer as the slow model does. */
public final class GorgeDayAgainstModel {
    private static final int RUNS = 150;
    private static final int CALLS = 250;
    private static final String[] QUESTIONS = {
        "fault", "open", "copy", "step", "slow", "pulse", "stepAt", "water", "level", "depth", "flow", "most", "wet",
        "harm", "down", "latest", "person", "call", "calls", "caught", "odds", "fear", "bounds", "judge", "best",
        "whom", "warden", "warns", "bears", "closing", "turbine", "power", "hours", "follow", "keeps", "log", "like",
        "likest", "near", "play", "image", "back", "count", "feed", "end", "gorge", "rule",
        // Asked more often, as there is more to be wrong in them.
        "step", "step", "slow", "pulse", "person", "person", "call", "call", "odds", "fear", "judge", "whom", "hours",
        "bounds", "keeps", "log", "play", "play", "near", "like", "copy"};

    private final Random random;
    private final GorgeDay day = new GorgeDay();
    private final GorgeModel model = new GorgeModel();
    private final List<String> told = new ArrayList<>();
    private static final Map<String, Method> ofDay = new HashMap<>();
    private static final Map<String, Method> ofModel = new HashMap<>();
    private static final Map<String, Integer> answers = new HashMap<>();
    private boolean wrong = false;

    private GorgeDayAgainstModel(long seed) {
        random = new Random(seed);
    }

    public static void main(String[] args) {
        for (Method m : GorgeDay.class.getMethods()) {
            ofDay.put(m.getName(), m);
        }
        for (Method m : GorgeModel.class.getDeclaredMethods()) {
            ofModel.put(m.getName() + m.getParameterCount(), m);
        }
        int runs = args.length > 0 ? Integer.parseInt(args[0]) : RUNS;
        int first = args.length > 1 ? Integer.parseInt(args[1]) : 0;
        int bad = 0;
        for (int seed = first; seed < first + runs && bad < 3; seed++) {
            GorgeDayAgainstModel run = new GorgeDayAgainstModel(seed);
            run.go();
            if (run.wrong) {
                bad++;
                System.out.println("run of seed " + seed + ":");
                for (String s : run.told) {
                    System.out.println("  " + s);
                }
            }
        }
        if (args.length > 2) {
            System.out.println(new java.util.TreeMap<>(answers));
        }
        System.out.println(bad == 0 ? runs + " random runs are as the model says" : "the class and the model differ");
        if (bad != 0) {
            System.exit(1);
        }
    }

    private void go() {
        int scene = random.nextInt(5);
        if (scene < 2) {
            beginLively();
        } else if (scene < 4) {
            beginAnyhow();
        } else {
            beginFullOpen();
        }
        for (int i = 0; i < CALLS && !wrong; i++) {
            int kind = random.nextInt(30);
            if (kind == 0) {
                tellText(true, spoilt(gorgeText()));
            } else if (kind == 1) {
                tellText(false, spoilt(ruleText()));
            } else {
                ask(QUESTIONS[random.nextInt(QUESTIONS.length)]);
            }
        }
    }

    private void beginAnyhow() {
        int texts = 1 + random.nextInt(3);
        tellText(true, lakeText());
        for (int i = 0; i < texts; i++) {
            tellText(true, gorgeText());
        }
        int openings = random.nextInt(3);
        for (int i = 0; i < openings; i++) {
            ask("open");
        }
    }

    /** A gorge in which the water comes late and is felt, with people in its way, and what is hard asked often. */
    private void beginLively() {
        tellText(true, "lake 10 " + (2000 + upTo(2000)) + " " + (100 + upTo(300)) + " " + (40 + upTo(55))
                + ";gate " + upTo(60) + " " + upTo(120) + " " + upTo(200) + ";gate " + (30 + upTo(90)));
        StringBuilder reaches = new StringBuilder("rain 0 95 ").append(upTo(2));
        int many = 2 + upTo(4);
        for (int i = 0; i < many; i++) {
            reaches.append(";reach ").append(3 + upTo(9)).append(' ').append(5 + upTo(25)).append(' ');
            reaches.append(30 + upTo(50)).append(' ').append(upTo(30)).append(' ').append(upTo(4));
        }
        tellText(true, reaches.toString());
        StringBuilder places = new StringBuilder("price 10 30 9");
        for (int i = 0; i < 8; i++) {
            places.append(";place ").append(random.nextInt(many)).append(' ').append(3 + upTo(20)).append(' ');
            places.append(upTo(6)).append(' ').append(upTo(99));
        }
        tellText(true, places.toString());
        day.turbine(50);
        model.turbine(50);
        for (int i = 0; i < 2; i++) {
            ask("open");
            say("step", i, upTo(1), 10 + upTo(20), 40 + upTo(50), 1 + upTo(2));
        }
        for (int i = 0; i < 8; i++) {
            say("person", upTo(7), upTo(20), 40 + upTo(50), upTo(100), upTo(10), pick(2, 5, 9, 99));
        }
        say("bounds", pick(100, 600, 1000), pick(1, 2, 4, 8, 999), pick(100, 300, 99999));
        for (int i = 0; i < 30 && !wrong; i++) {
            say("call", upTo(7), upTo(40));
            ask(pick2("warden", "warns", "closing", "bears", "best", "whom"));
            say("warden", upTo(1), random.nextInt(many), upTo(30), upTo(6), upTo(255) & upTo(255), pick(-1, 0, 1, 2));
            say("closing", upTo(1), upTo(1), 12 + upTo(80));
            say("bounds", pick(100, 600, 1000), pick(1, 2, 3, 4, 5, 6, 8, 999), pick(100, 300, 99999));
            say("person", upTo(7), upTo(20), 40 + upTo(50), upTo(100), upTo(10), pick(2, 5, 9, 99));
        }
    }

    /** A great lake whose gates stand wide open: how fast they may be closed depends on each step, and power is dear. */
    private void beginFullOpen() {
        StringBuilder text = new StringBuilder("lake ").append(pick(50, 100)).append(" 999999 9999 95");
        for (int g = 0; g < 2; g++) {
            text.append(";gate");
            int flow = 0;
            int steps = 2 + upTo(4);
            for (int i = 0; i < steps; i++) {
                flow += 20 + upTo(100);
                text.append(' ').append(flow);
            }
        }
        int many = 1 + upTo(2);
        for (int i = 0; i < many; i++) {
            text.append(";reach ").append(3 + upTo(7)).append(' ').append(20 + upTo(20)).append(' ').append(40 + upTo(60));
            text.append(' ').append(upTo(30)).append(" 0");
        }
        tellText(true, text.toString());
        StringBuilder prices = new StringBuilder("price 0 95 ").append(upTo(20));
        for (int i = 0; i < 8; i++) {
            prices.append(";price ").append(span()).append(upTo(20));
        }
        tellText(true, prices.toString());
        say("turbine", 30 + upTo(400));
        ask("open");
        say("slow", 0, 0, 0, 6, 1);
        say("slow", 0, 1, upTo(10), upTo(6), 1 + upTo(3));
        for (int i = 0; i < 20 && !wrong; i++) {
            say("bounds", 0, pick(upTo(10), upTo(20), upTo(40)), 99999);
            say("closing", 0, upTo(1), 12 + upTo(60));
            say("hours", upTo(1), upTo(6), upTo(60), upTo(20), 1 + upTo(5), random.nextBoolean());
        }
    }

    private int pick(int... of) {
        return of[random.nextInt(of.length)];
    }

    private int upTo(int most) {
        return random.nextInt(most + 1);
    }

    /** Mostly a number that is there, now and then one beyond it or far away. */
    private int index(int size) {
        int kind = random.nextInt(40);
        if (kind == 0) {
            return pick(-1, size, -2, Integer.MAX_VALUE, Integer.MIN_VALUE, 96, 95, 99);
        }
        return size > 0 ? random.nextInt(size) : 0;
    }

    private int quarter() {
        int kind = random.nextInt(10);
        return kind < 5 ? upTo(12) : kind < 6 ? pick(0, 95, 94, 1) : kind < 7 ? pick(0, 10, 96, -1) : upTo(95);
    }

    private int number(int least, int most) {
        int kind = random.nextInt(30);
        return kind == 0 ? pick(least - 1, most + 1, Integer.MIN_VALUE, Integer.MAX_VALUE)
                : kind < 4 ? pick(least, most) : least + random.nextInt(most - least + 1);
    }

    private void ask(String name) {
        say(name, argumentsOf(name));
    }

    private void say(String name, Object... args) {
        StringBuilder call = new StringBuilder(name).append('(');
        for (Object a : args) {
            call.append(call.length() > name.length() + 1 ? ", " : "").append(a);
        }
        String got = answer(day, ofDay.get(name), args);
        String due = answer(model, ofModel.get(name + args.length), args);
        told.add(call.append(") answered ").append(got).append(", due is ").append(due).toString());
        answers.merge(name + " " + (got.length() > 4 && !got.startsWith("throws") ? "number" : got), 1, Integer::sum);
        if (!got.equals(due)) {
            wrong = true;
        }
    }

    private static String answer(Object of, Method m, Object[] args) {
        try {
            return String.valueOf(m.invoke(of, args));
        } catch (InvocationTargetException e) {
            return "throws " + e.getCause().getClass().getSimpleName();
        } catch (IllegalAccessException e) {
            return "no access";
        }
    }

    private Object[] argumentsOf(String name) {
        int gates = day.count(1);
        int reaches = day.count(2);
        int places = day.count(3);
        int o = index(day.count(4));
        int people = day.count(5);
        switch (name) {
            case "copy": case "harm": case "down": case "fear": case "judge": case "bears": case "power": case "like":
                return new Object[] {o};
            case "step": return new Object[] {o, index(gates), quarter(), pick(quarter(), 95, 95, 20), number(0, 6)};
            case "slow": return new Object[] {o, index(gates), quarter(), number(0, 6), number(1, pick(4, 96))};
            case "pulse":
                return new Object[] {o, index(gates), quarter(), number(0, 6), number(1, pick(4, 96)), number(0, pick(4, 96))};
            case "stepAt": return new Object[] {o, index(gates), quarter()};
            case "water": return new Object[] {o, pick(-1, index(reaches), index(reaches)), quarter()};
            case "level": case "whom": return new Object[] {o, quarter()};
            case "depth": return new Object[] {o, index(reaches), quarter()};
            case "flow": return new Object[] {o, quarter(), random.nextBoolean()};
            case "most": return new Object[] {o, index(reaches), random.nextBoolean(), random.nextBoolean()};
            case "wet": return new Object[] {o, index(places), quarter()};
            case "latest": return new Object[] {o, index(places)};
            case "person":
                return new Object[] {index(places), quarter(), pick(quarter(), 95, 90, 30), number(0, 100),
                    pick(0, 0, quarter()), number(1, 99)};
            case "call": return new Object[] {index(places), quarter()};
            case "caught": case "odds": case "near": return new Object[] {o, index(people)};
            case "bounds": return new Object[] {number(0, pick(1000, 300)), number(0, pick(999, 30)), number(0, pick(99999, 2000))};
            case "best": return new Object[] {index(gates), random.nextBoolean()};
            case "warden":
                return new Object[] {o, index(reaches), quarter(), number(0, 9), random.nextInt() & random.nextInt(),
                    pick(-1, -1, 0, 1, 2, 5, 6, -2)};
            case "warns": return new Object[] {o, index(gates)};
            case "closing": return new Object[] {o, index(gates), quarter()};
            case "turbine": return new Object[] {number(0, pick(9999, 200))};
            case "hours":
                return new Object[] {index(gates), number(0, 6), quarter(), number(0, pick(96, 10)), number(1, pick(96, 6)),
                    random.nextBoolean()};
            case "follow": case "keeps": return new Object[] {index(day.count(7))};
            case "log": return new Object[] {index(places), quarter(), random.nextBoolean()};
            case "play": return new Object[] {o, random.nextInt()};
            case "count": return new Object[] {pick(upTo(11), upTo(11), 12, -1)};
            case "feed":
                return new Object[] {random.nextInt(), random.nextInt(), random.nextInt(), random.nextInt(), random.nextInt()};
            case "end": return new Object[] {pick(0, 0, 5, 20, 400, -1)};
            default: return new Object[0];
        }
    }

    // ---- texts

    private void tellText(boolean ofGorge, String text) {
        day.end(0);
        model.end(0);
        String cut = text.length() > 400 ? text.substring(0, 400) : text;
        for (int i = 0; i < cut.length(); i += 20) {
            int[] n = new int[5];
            for (int j = 0; j < 20; j++) {
                int sign = i + j < cut.length() ? cut.charAt(i + j) : 0;
                n[j / 4] |= sign << 24 - j % 4 * 8;
            }
            int got = day.feed(n[0], n[1], n[2], n[3], n[4]);
            int due = model.feed(n[0], n[1], n[2], n[3], n[4]);
            wrong |= got != due;
        }
        wrong |= day.end(cut.length()) != model.end(cut.length());
        told.add("tape holds \"" + cut + "\"");
        ask(ofGorge ? "gorge" : "rule");
        ask("fault");
    }

    private String lakeText() {
        int area = pick(1, 10, 10, 37, 9999);
        int water = upTo(pick(999999, 2000, 100 * Math.min(area, 99)));
        return "lake " + area + " " + water + " " + upTo(Math.min(9999, water / area)) + " " + pick(95, 40, 10, upTo(95));
    }

    private String gorgeText() {
        StringBuilder text = new StringBuilder();
        int lines = upTo(pick(3, 6, 9, 13));
        int reaches = day.count(2);
        for (int i = 0; i < lines; i++) {
            text.append(i == 0 ? "" : pick(0, 1) == 0 ? ";" : " ; ");
            int kind = random.nextInt(12);
            if (kind == 0) {
                text.append(lakeText());
            } else if (kind == 1) {
                text.append("into ").append(span()).append(upTo(pick(9999, 200)));
            } else if (kind == 2) {
                text.append("rain ").append(span()).append(upTo(9));
            } else if (kind == 3) {
                text.append("price ").append(span()).append(upTo(99));
            } else if (kind <= 5) {
                text.append("gate");
                int steps = 1 + random.nextInt(6);
                for (int k = 0; k < steps; k++) {
                    text.append(' ').append(upTo(pick(9999, 300, 100)));
                }
            } else if (kind <= 8 || reaches == 0) {
                text.append("reach ").append(1 + upTo(pick(10, 998))).append(' ').append(upTo(60)).append(' ');
                text.append(upTo(100)).append(' ').append(upTo(pick(999, 20, 5))).append(' ').append(upTo(pick(99, 3)));
                reaches++;
            } else {
                text.append("place ").append(random.nextInt(reaches)).append(' ').append(upTo(pick(30, 10, 4, 100, 999)));
                text.append(' ').append(upTo(pick(12, 3))).append(' ').append(upTo(999));
            }
        }
        return text.toString();
    }

    private String span() {
        int from = upTo(95);
        return from + " " + (from + upTo(95 - from)) + " ";
    }

    private String ruleText() {
        StringBuilder text = new StringBuilder();
        int lines = upTo(pick(3, 5, 13));
        for (int i = 0; i < lines; i++) {
            text.append(i == 0 ? "" : ";");
            int gate = pick(0, 0, 0, 1, 1, 2, 3);
            text.append(random.nextInt(3) > 0 ? "open " + gate + " " + (1 + upTo(5)) : "shut " + gate);
            if (random.nextInt(5) > 0) {
                text.append(" if ").append(condition(0));
            }
        }
        return text.toString();
    }

    private String condition(int deep) {
        switch (random.nextInt(deep > 8 ? 3 : 9)) {
            case 0: return "wet " + upTo(11);
            case 1: case 2: return sum() + pick2("<", ">", " < ", " >") + sum();
            case 3: return "not " + (random.nextBoolean() ? "wet 0" : "(" + condition(deep + 2) + ")");
            case 4: return "(" + condition(deep + 1) + ")";
            case 5: return condition(deep + 1) + " and " + condition(deep + 1);
            case 6: return condition(deep + 1) + " or " + condition(deep + 1);
            case 7: return "not not " + condition(deep + 3);
            default: return sum() + ">" + sum();
        }
    }

    private String pick2(String... of) {
        return of[random.nextInt(of.length)];
    }

    private String sum() {
        String part = pick2("level", "goal", "quarter", "rain", "depth " + upTo(7), "depth 0", "gate " + upTo(3), "gate 0",
                "" + upTo(100), "" + upTo(20), "" + upTo(999999));
        return random.nextInt(4) == 0 ? part + "+" + sum() : part;
    }

    /** Half of the texts stay as they are; in the others some signs are put, taken away or changed. */
    private String spoilt(String text) {
        if (random.nextBoolean()) {
            return text;
        }
        StringBuilder b = new StringBuilder(text);
        int times = 1 + random.nextInt(2);
        for (int i = 0; i < times; i++) {
            int at = random.nextInt(b.length() + 1);
            int kind = random.nextInt(5);
            char sign = ";; 0159<>()+azA\0\377".charAt(random.nextInt(17));
            if (kind == 0 || at == b.length()) {
                b.insert(at, sign);
            } else if (kind == 1) {
                b.deleteCharAt(at);
            } else if (kind == 2) {
                b.setCharAt(at, sign);
            } else if (kind == 3) {
                b.setLength(at);
            } else {
                b.insert(at, pick2(" ", "  ", "gate ", "and ", "not ", "wet 3", "0000000", "(", ")", ";"));
            }
        }
        return b.toString();
    }
}
