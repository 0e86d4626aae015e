import java.io.IOException;
import java.lang.management.ManagementFactory;
import java.lang.reflect.Constructor;
import java.lang.reflect.Field;
import java.lang.reflect.Method;
import java.lang.reflect.Modifier;
import java.nio.file.Files;
import java.nio.file.Path;
import java.util.ArrayList;
import java.util.Arrays;
import java.util.HashMap;
import java.util.HashSet;
import java.util.List;
import java.util.Map;
import java.util.Set;
import java.util.regex.Matcher;
import java.util.regex.Pattern;

/** The public face of the class, the room that its calls take, and what of LANGUAGE.md can be seen from outside. */
public final class GorgeDayFace {
    private static final String[] FACE = {
        "int feed(int,int,int,int,int)", "boolean end(int)",
        "int gorge() IllegalArgumentException UnsupportedOperationException",
        "int rule() IllegalArgumentException UnsupportedOperationException", "int fault()",
        "int open() UnsupportedOperationException",
        "int copy(int) IndexOutOfBoundsException UnsupportedOperationException",
        "void step(int,int,int,int,int) IndexOutOfBoundsException IllegalArgumentException",
        "void slow(int,int,int,int,int) IndexOutOfBoundsException IllegalArgumentException",
        "void pulse(int,int,int,int,int,int) IndexOutOfBoundsException IllegalArgumentException",
        "int stepAt(int,int,int) IndexOutOfBoundsException", "int water(int,int,int) IndexOutOfBoundsException",
        "int level(int,int) IndexOutOfBoundsException", "int depth(int,int,int) IndexOutOfBoundsException",
        "int flow(int,int,boolean) IndexOutOfBoundsException",
        "int most(int,int,boolean,boolean) IndexOutOfBoundsException",
        "boolean wet(int,int,int) IndexOutOfBoundsException", "int harm(int) IndexOutOfBoundsException",
        "int down(int) IndexOutOfBoundsException", "int latest(int,int) IndexOutOfBoundsException",
        "int person(int,int,int,int,int,int) IndexOutOfBoundsException IllegalArgumentException UnsupportedOperationException",
        "int call(int,int) IndexOutOfBoundsException UnsupportedOperationException", "int calls()",
        "int caught(int,int) IndexOutOfBoundsException", "long odds(int,int) IndexOutOfBoundsException",
        "long fear(int) IndexOutOfBoundsException", "void bounds(int,int,int) IllegalArgumentException",
        "int judge(int) IndexOutOfBoundsException", "int best(int,boolean) IndexOutOfBoundsException",
        "int whom(int,int) IndexOutOfBoundsException",
        "long warden(int,int,int,int,int,int) IndexOutOfBoundsException IllegalArgumentException",
        "int warns(int,int) IndexOutOfBoundsException", "int bears(int) IndexOutOfBoundsException",
        "int closing(int,int,int) IndexOutOfBoundsException", "void turbine(int) IllegalArgumentException",
        "long power(int) IndexOutOfBoundsException",
        "long hours(int,int,int,int,int,boolean) IndexOutOfBoundsException IllegalArgumentException",
        "int follow(int) IndexOutOfBoundsException UnsupportedOperationException",
        "int keeps(int) IndexOutOfBoundsException",
        "int log(int,int,boolean) IndexOutOfBoundsException UnsupportedOperationException",
        "int like(int) IndexOutOfBoundsException", "int likest()", "int near(int,int) IndexOutOfBoundsException",
        "int play(int,int) IndexOutOfBoundsException", "void image()", "boolean back()", "int count(int)"};

    private static int wrong = 0;

    private static void check(boolean right, String what) {
        if (!right) {
            wrong++;
            System.out.println(what);
        }
    }

    public static void main(String[] args) throws IOException {
        face();
        nested();
        source();
        depth();
        room();
        System.out.println(wrong == 0 ? "the face is as the document says" : wrong + " things are not as due");
        if (wrong != 0) {
            System.exit(1);
        }
    }

    private static String written(Method m) {
        StringBuilder b = new StringBuilder(m.getReturnType().getName()).append(' ').append(m.getName()).append('(');
        List<String> types = new ArrayList<>();
        for (Class<?> type : m.getParameterTypes()) {
            types.add(type.getName());
        }
        b.append(String.join(",", types)).append(')');
        for (Class<?> e : m.getExceptionTypes()) {
            b.append(' ').append(e.getSimpleName());
        }
        return b.toString();
    }

    private static void face() {
        Set<String> due = new HashSet<>(Arrays.asList(FACE));
        Set<String> names = new HashSet<>();
        for (Method m : GorgeDay.class.getDeclaredMethods()) {
            if (!Modifier.isPrivate(m.getModifiers())) {
                check(Modifier.isPublic(m.getModifiers()) && due.remove(written(m)), "not of the face: " + written(m));
                names.add(m.getName());
            }
        }
        check(due.isEmpty(), "missing: " + due);
        check(names.size() == FACE.length, "names of the face: " + names.size());
        for (Class<?> c : GorgeDay.class.getDeclaredClasses()) {
            for (Method m : c.getDeclaredMethods()) {
                check(!names.contains(m.getName()), "a method inside bears a name of the face: " + m.getName());
            }
        }
        for (Method m : GorgeDay.class.getDeclaredMethods()) {
            check(!Modifier.isPrivate(m.getModifiers()) || !names.contains(m.getName()), "a private " + m.getName());
        }
        for (Field f : GorgeDay.class.getDeclaredFields()) {
            int how = f.getModifiers();
            check(Modifier.isPrivate(how) || f.getName().equals("NONE") && Modifier.isPublic(how), "field " + f.getName());
            check(!Modifier.isStatic(how) || Modifier.isFinal(how), "static field " + f.getName());
        }
        Constructor<?>[] made = GorgeDay.class.getDeclaredConstructors();
        check(made.length == 1 && Modifier.isPublic(made[0].getModifiers()) && made[0].getParameterCount() == 0, "constructor");
        check(Modifier.isFinal(GorgeDay.class.getModifiers()), "the class is final");
    }

    private static void nested() {
        Class<?>[] inside = GorgeDay.class.getDeclaredClasses();
        check(inside.length + 1 <= 12, "classes: " + (inside.length + 1));
        for (Class<?> c : inside) {
            check(Modifier.isStatic(c.getModifiers()) && !Modifier.isPublic(c.getModifiers()), "class " + c.getName());
            int fields = 0;
            for (Field f : c.getDeclaredFields()) {
                fields += Modifier.isStatic(f.getModifiers()) ? 0 : 1;
            }
            check(fields <= 20, "fields of " + c.getName() + ": " + fields);
        }
    }

    private static String sourceText() throws IOException {
        String path = System.getenv("GORGE_SOURCE");
        return Files.readString(Path.of(path == null ? "src/main/java/GorgeDay.java" : path));
    }

    private static String bareSource() throws IOException {
        return sourceText().replaceAll("(?s)/\\*.*?\\*/", "").replaceAll("//[^\n]*", "");
    }

    /** Calls go at most eight deep, those of the library counted; methods of one name are taken for one. */
    private static void depth() throws IOException {
        Map<String, Set<String>> calls = new HashMap<>();
        Pattern head = Pattern.compile(" {4}(?: {4})?(?!if|for|while|switch|\\})[\\w \\[\\]]*?(\\w+)\\([^()]*\\)(?: throws [\\w, ]+)? \\{");
        Pattern called = Pattern.compile("(?<!new )\\b(\\w+)\\(");
        Set<String> inside = new HashSet<>();
        for (String line : bareSource().replaceAll("\\n +throws ", " throws ").split("\n")) {
            Matcher begins = head.matcher(line);
            if (begins.matches()) {
                inside = calls.computeIfAbsent(begins.group(1), name -> new HashSet<>());
            } else {
                Matcher m = called.matcher(line);
                while (m.find()) {
                    inside.add(m.group(1));
                }
            }
        }
        check(calls.size() > 120, "methods read from the source: " + calls.size());
        for (Method m : GorgeDay.class.getDeclaredMethods()) {
            check(calls.containsKey(m.getName()), "not read from the source: " + m.getName());
            List<String> way = deepest(m.getName(), calls, new ArrayList<>());
            check(way.size() <= 8, "calls go " + way.size() + " deep: " + way);
        }
    }

    /** The longest way of calls that comes to no method twice. */
    private static List<String> deepest(String name, Map<String, Set<String>> calls, List<String> way) {
        if (way.contains(name)) {
            return way;
        }
        List<String> here = new ArrayList<>(way);
        here.add(name);
        List<String> longest = here;
        for (String next : calls.getOrDefault(name, Set.of())) {
            List<String> further = deepest(next, calls, here);
            longest = further.size() > longest.size() ? further : longest;
        }
        return longest;
    }

    private static void source() throws IOException {
        String text = sourceText();
        String code = bareSource();
        for (String banned : new String[] {"->", "::", "catch", "finally", "synchronized", "assert ", "instanceof", "HashMap",
            "String.format", "System.out", "Random", "nanoTime", "currentTime", "hashCode", "Exact(", "package "}) {
            check(!code.contains(banned), "the source has " + banned);
        }
        Matcher thrown = Pattern.compile("throw new (\\w+)\\(").matcher(code);
        while (thrown.find()) {
            check(thrown.group(1).matches("Illegal(State|Argument)Exception|IndexOutOfBoundsException"
                    + "|UnsupportedOperationException"), "throws " + thrown.group(1));
        }
        String[] lines = text.split("\n");
        int begin = 0;
        for (int i = 0; i < lines.length; i++) {
            if (lines[i].matches(" {4,8}(public|private|static|void|int|long|boolean|Rule|Flood|Danger)?.*\\)( throws .*)? \\{")) {
                begin = i;
            }
            if (lines[i].matches(" {4,8}\\}")) {
                check(i - begin <= 60, "long method at line " + (begin + 1));
            }
            check(lines[i].length() <= 120, "long line " + (i + 1));
        }
    }

    /** A run has room for some 7.3 million elements: no call but rule() may make anything. */
    private static void room() {
        com.sun.management.ThreadMXBean bean = (com.sun.management.ThreadMXBean) ManagementFactory.getThreadMXBean();
        if (!bean.isThreadAllocatedMemorySupported()) {
            return;
        }
        long id = Thread.currentThread().getId();
        GorgeDay x = lively();
        int sum = work(x);
        long before = bean.getThreadAllocatedBytes(id);
        GorgeDay y = lively();
        long made = bean.getThreadAllocatedBytes(id) - before;
        check(made < 200000, "a new object takes " + made + " bytes");
        before = bean.getThreadAllocatedBytes(id);
        sum += work(y);
        long used = bean.getThreadAllocatedBytes(id) - before;
        check(used < 3000, "calls take " + used + " bytes, answer " + sum);
    }

    private static GorgeDay lively() {
        GorgeDay x = new GorgeDay();
        String text = "lake 10 3000 90 90;gate 30 60 90;reach 9 20 60 9 1;place 0 5 2 5;place 0 7 3 9;rain 0 95 1;price 0 9 7";
        for (int i = 0; i < text.length(); i += 20) {
            int[] n = {0x20202020, 0x20202020, 0x20202020, 0x20202020, 0x20202020};
            for (int j = 0; j < 20 && i + j < text.length(); j++) {
                n[j / 4] = n[j / 4] & ~(255 << 24 - j % 4 * 8) | text.charAt(i + j) << 24 - j % 4 * 8;
            }
            x.feed(n[0], n[1], n[2], n[3], n[4]);
        }
        x.gorge();
        x.open();
        x.step(0, 0, 30, 95, 2);
        x.person(0, 5, 90, 50, 5, 99);
        x.person(1, 5, 90, 60, 5, 99);
        x.turbine(50);
        return x;
    }

    private static int work(GorgeDay x) {
        long sum = x.rule();
        for (int i = 0; i < 20; i++) {
            sum += x.best(0, true) + x.warns(0, 0) + x.bears(0) + x.closing(0, 0, 40) + x.keeps(0) + x.judge(0);
            sum += x.whom(0, i) + x.warden(0, 0, i, 1, 3, -1) + x.hours(0, 1, 0, 30, 3, true) + x.play(0, i) + x.likest();
            x.image();
            x.back();
        }
        return (int) sum;
    }
}
