import java.io.IOException;
import java.nio.file.Files;
import java.nio.file.Path;
import java.util.Set;
import java.util.TreeSet;
import java.util.function.Supplier;

/**
 * What all tests of edges need. An edge is a sentence of the document that names a boundary case: it is told by its
 * promise and its words, which must stand in the document so, and every check belongs to the edge told last.
 */
final class Edges {
    static final Class<?> INDEX = IndexOutOfBoundsException.class;
    static final Class<?> ARGUMENT = IllegalArgumentException.class;
    static final Class<?> ROOM = UnsupportedOperationException.class;
    static final int NONE = -1;
    static final int FAR = Integer.MAX_VALUE;
    static final int LOW = Integer.MIN_VALUE;

    private static final Set<Integer> promises = new TreeSet<>();
    private static String document = "";
    private static String edge = "";
    private static int edges = 0;
    private static int checksOfEdge = 1;
    private static int checks = 0;
    private static int wrong = 0;

    private Edges() {
    }

    /** A call on an object that may throw; what it answers is not looked at. */
    interface Call {
        void on(GorgeDay x);
    }

    /** A call on an object by one number of it that goes up to its bounds and beyond. */
    interface Numbered {
        void on(GorgeDay x, int n);
    }

    // ---- edges

    static void readDocument(Path path) throws IOException {
        document = Files.readString(path).replaceAll("\\s+", " ");
    }

    static void edge(int promise, String... sentences) {
        endEdge();
        promises.add(promise);
        edges++;
        checksOfEdge = 0;
        edge = "promise " + promise + ", \"" + String.join("\" / \"", sentences) + "\"";
        for (String sentence : sentences) {
            if (!document.contains(sentence)) {
                report("the document does not say: " + sentence);
            }
        }
    }

    private static void endEdge() {
        if (checksOfEdge == 0) {
            report("nothing was checked");
        }
    }

    /** Ends the last edge; answers whether all was right, and whether each promise has an edge. */
    static boolean end() {
        endEdge();
        edge = "all";
        for (int promise = 1; promise <= 48; promise++) {
            if (!promises.contains(promise)) {
                report("promise " + promise + " has no edge");
            }
        }
        System.out.println(edges + " edges, " + checks + " checks: "
                + (wrong == 0 ? "each is as the document says" : wrong + " are not as the document says"));
        return wrong == 0;
    }

    private static void report(String what) {
        wrong++;
        System.out.println(edge + ": " + what);
    }

    // ---- checks

    static void due(String what, long got, long want) {
        checks++;
        checksOfEdge++;
        if (got != want) {
            report(what + " answered " + got + ", due is " + want);
        }
    }

    static void due(String what, boolean got, boolean want) {
        due(what, got ? 1 : 0, want ? 1 : 0);
    }

    private static Class<?> thrownBy(GorgeDay x, Call call) {
        try {
            call.on(x);
            return null;
        } catch (RuntimeException e) {
            return e.getClass();
        }
    }

    static void throwsThat(String what, Class<?> want, GorgeDay x, Call call) {
        Class<?> got = thrownBy(x, call);
        due(what + " (thrown: " + (got == null ? "nothing" : got.getSimpleName()) + ")", got == want, true);
    }

    /** The call is right: it throws nothing. */
    static void fine(String what, GorgeDay x, Call call) {
        throwsThat(what, null, x, call);
    }

    /** The call throws that, and nothing that can be asked is another one behind it. */
    static void refused(String what, Class<?> want, Call call) {
        refused(what, want, Village::new, call);
    }

    static void refused(String what, Class<?> want, Supplier<Village> of, Call call) {
        throwsThat(what, want, of.get().day, call);
        unchanged(what, of, call);
    }

    static void unchanged(String what, Supplier<Village> of, Call call) {
        String change = Village.changeBy(of, x -> thrownBy(x, call));
        due(what + " changes nothing" + change, change.isEmpty(), true);
    }

    // ---- indexes and numbers

    /** Of so many from 0 on: the first and the last are there, what is below and behind them is none. */
    static void indexes(int promise, String of, int size, Numbered call) {
        edge(promise, "IndexOutOfBoundsException: there is no such OPENING, GATE, REACH, PLACE, PERSON, RULE, QUARTER", of);
        fine(of + " 0", new Village().day, x -> call.on(x, 0));
        fine(of + " " + (size - 1), new Village().day, x -> call.on(x, size - 1));
        refused(of + " -1", INDEX, x -> call.on(x, NONE));
        refused(of + " " + size, INDEX, x -> call.on(x, size));
        throwsThat("the least " + of, INDEX, new Village().day, x -> call.on(x, LOW));
        throwsThat("the greatest " + of, INDEX, new Village().day, x -> call.on(x, FAR));
    }

    /** The numbers from the least to the most are right, those next to them are none. */
    static void numbers(int promise, String sentence, int least, int most, Numbered call) {
        edge(promise, sentence);
        fine(String.valueOf(least), new Village().day, x -> call.on(x, least));
        fine(String.valueOf(most), new Village().day, x -> call.on(x, most));
        refused(String.valueOf(least - 1), ARGUMENT, x -> call.on(x, least - 1));
        refused(String.valueOf(most + 1), ARGUMENT, x -> call.on(x, most + 1));
        throwsThat("the least number", ARGUMENT, new Village().day, x -> call.on(x, LOW));
        throwsThat("the greatest number", ARGUMENT, new Village().day, x -> call.on(x, FAR));
    }

    // ---- texts

    static GorgeDay tape(GorgeDay x, String text) {
        x.end(0);
        for (int i = 0; i < text.length(); i += 20) {
            int[] n = new int[5];
            for (int j = 0; j < 20 && i + j < text.length(); j++) {
                n[j / 4] |= text.charAt(i + j) << 24 - j % 4 * 8;
            }
            x.feed(n[0], n[1], n[2], n[3], n[4]);
        }
        x.end(text.length());
        return x;
    }

    static GorgeDay gorge(String... texts) {
        GorgeDay x = new GorgeDay();
        for (String text : texts) {
            tape(x, text).gorge();
        }
        return x;
    }

    /** A gorge with one OPENING in which all GATES are shut. */
    static GorgeDay opened(String... texts) {
        GorgeDay x = gorge(texts);
        x.open();
        return x;
    }

    static int rule(GorgeDay x, String text) {
        return tape(x, text).rule();
    }

    static String times(String line, int n) {
        StringBuilder b = new StringBuilder();
        for (int i = 0; i < n; i++) {
            b.append(i == 0 ? "" : ";").append(line);
        }
        return b.toString();
    }

    static void rightGorge(String text) {
        GorgeDay x = gorge("reach 1 0 0 0 0");
        fine("\"" + text + "\"", tape(x, text), GorgeDay::gorge);
        due("fault of \"" + text + "\"", x.fault(), NONE);
    }

    /** The text is wrong at that byte, and nothing of it stays but that it is used up. */
    static void wrongGorge(String text, int at) {
        wrongText(text, at, GorgeDay::gorge);
    }

    static void rightRule(String text) {
        GorgeDay x = new GorgeDay();
        fine("\"" + text + "\"", tape(x, text), GorgeDay::rule);
        due("fault of \"" + text + "\"", x.fault(), NONE);
        due("rules behind \"" + text + "\"", x.count(7), 1);
    }

    static void wrongRule(String text, int at) {
        wrongText(text, at, GorgeDay::rule);
    }

    private static void wrongText(String text, int at, Call read) {
        GorgeDay x = gorge("reach 1 0 0 0 0");
        throwsThat("\"" + text + "\"", ARGUMENT, tape(x, text), read);
        due("fault of \"" + text + "\"", x.fault(), at);
        due("the tape behind \"" + text + "\" holds a byte", x.end(1), false);
        unchanged("\"" + text + "\"", Village::withoutTape, y -> read.on(tape(y, text)));
    }

    /** A number within a text: the least and the most may stand there, what is beyond them is wrong where it begins. */
    static void numberOfGorge(String ahead, String behind, int least, int most) {
        rightGorge(ahead + least + behind);
        rightGorge(ahead + most + behind);
        wrongGorge(ahead + (least - 1) + behind, ahead.length());
        wrongGorge(ahead + (most + 1) + behind, ahead.length());
        wrongGorge(ahead + sevenDigits(least) + behind, ahead.length());
        wrongGorge(ahead + sevenDigits(most) + behind, ahead.length());
    }

    static void numberOfRule(String ahead, String behind, int least, int most) {
        rightRule(ahead + least + behind);
        rightRule(ahead + most + behind);
        wrongRule(ahead + (least - 1) + behind, ahead.length());
        wrongRule(ahead + (most + 1) + behind, ahead.length());
        wrongRule(ahead + sevenDigits(least) + behind, ahead.length());
        wrongRule(ahead + sevenDigits(most) + behind, ahead.length());
    }

    private static String sevenDigits(int n) {
        return String.format("%07d", n);
    }
}
