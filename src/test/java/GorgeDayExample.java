import java.io.IOException;
import java.nio.file.Files;
import java.nio.file.Path;
import java.util.ArrayList;
import java.util.List;

/** The example of README.md: its answers are as it says, and README.md shows just these lines. */
public final class GorgeDayExample {
    /** So many calls of due: that of the text that is wrong must have been come to, too. */
    private static final int ANSWERS = 23;

    private static int wrong = 0;
    private static int asked = 0;

    public static void main(String[] args) throws IOException {
        example();
        if (asked != ANSWERS) {
            wrong++;
            System.out.println("the example asked " + asked + " times, due is " + ANSWERS);
        }
        List<String> written = between(Files.readAllLines(file("src/test/java/GorgeDayExample.java")), "// begin", "// end");
        List<String> shown = between(Files.readAllLines(file("README.md")), "```java", "```");
        if (written.isEmpty() || !written.equals(shown)) {
            wrong++;
            System.out.println("README.md does not show the example as it is run");
        }
        System.out.println(wrong == 0 ? "the example of README.md holds, " + asked + " answers" : wrong + " things are not as due");
        if (wrong != 0) {
            System.exit(1);
        }
    }

    private static Path file(String name) {
        String root = System.getenv("GORGE_ROOT");
        return Path.of(root == null ? "." : root, name);
    }

    /** The lines between the first two that are these, without the blanks that all of them begin with. */
    private static List<String> between(List<String> lines, String begin, String end) {
        List<String> found = new ArrayList<>();
        boolean inside = false;
        for (String line : lines) {
            if (inside && line.strip().equals(end)) {
                return String.join("\n", found).stripIndent().lines().toList();
            }
            if (inside) {
                found.add(line);
            }
            inside |= line.strip().equals(begin);
        }
        return List.of();
    }

    private static void due(long want, long got) {
        asked++;
        if (got != want) {
            wrong++;
            System.out.println("answer " + asked + " of the example is " + got + ", README.md says " + want);
        }
    }

    // begin
    static void tell(GorgeDay day, String text) {
        byte[] bytes = java.util.Arrays.copyOf(text.getBytes(), 400);
        for (int i = 0; i < text.length(); i += 20) {
            java.nio.ByteBuffer b = java.nio.ByteBuffer.wrap(bytes, i, 20);
            day.feed(b.getInt(), b.getInt(), b.getInt(), b.getInt(), b.getInt());
        }
        day.end(text.length());
    }

    static void example() {
        GorgeDay day = new GorgeDay();
        tell(day, "lake 10 1000 60 95; gate 20 50; reach 2 20 60 15 0; place 0 12 2 30; price 40 59 3");
        due(1, day.gorge());                           // so many texts of the gorge are there

        due(0, day.open());                            // an opening: its number
        day.step(0, 0, 8, 95, 1);                      // its gate 0 stands at step 1 from quarter 8 to 95
        due(20, day.flow(0, 8, false));                // what is let go in quarter 8
        due(17, day.depth(0, 0, 9));                   // how deep reach 0 is in quarter 9
        due(7, day.latest(0, 0));                      // place 0 is wet in quarter 9: by 7 one must be gone
        due(18, day.level(0, 95));                     // how high the lake is at last

        due(0, day.person(0, 0, 95, 60, 4, 30));       // at place 0 all day, hears 60 of 100 calls, is awake from 4 on
        due(9, day.caught(0, 0));
        due(0, day.whom(0, 5));                        // whom to call in quarter 5: place 0
        due(1, day.call(0, 5));
        due(40000000L, day.odds(0, 0));                // 40 of 100, in hundred-millionths
        due(2, day.judge(0));                          // the fear is above its bound, which is 0 at first
        day.bounds(50, 999, 99999);
        due(0, day.judge(0));                          // all is well
        due(170, day.best(0, false));                  // step 1 from quarter 70 on would do

        day.turbine(15);
        due(510, day.power(0));
        due(540, day.hours(0, 1, 30, 12, 4, false));   // 12 quarters in pieces of 4 at least, from quarter 30 on
        due(40, day.hours(0, 1, 30, 12, 4, true));     // the first of them

        tell(day, "open 0 1 if level > goal and not wet 0; shut 0");
        due(0, day.rule());                            // a rule: its number
        due(1, day.follow(0));                         // the opening that comes of it
        due(0, day.stepAt(1, 0, 2));                   // place 0 was wet in quarter 1

        due(1, day.log(0, 20, false));                 // place 0 was dry in quarter 20
        due(1, day.likest());                          // which is so by opening 1

        tell(day, "lake 10 1000 60");
        try {
            day.gorge();
        } catch (IllegalArgumentException e) {
            due(15, day.fault());                      // where the text is wrong: it ends too early
        }
    }
    // end
}
