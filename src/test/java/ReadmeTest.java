import java.io.IOException;
import java.lang.reflect.Method;
import java.lang.reflect.Modifier;
import java.nio.file.Files;
import java.nio.file.Path;
import java.util.List;

/** README.md names every call and refusal, and its example answers as it says. */
public final class ReadmeTest {
    private static final Checks c = new Checks("ReadmeTest");

    public static void main(String[] args) throws IOException {
        String readme = Files.readString(Path.of("README.md"));
        names(readme);
        example(readme);
        c.finish();
    }

    private static void written(String readme, String what) {
        c.due("written in README.md (1: yes): " + what, readme.contains(what) ? 1 : 0, 1);
    }

    private static void names(String readme) {
        for (Method m : DatedJars.class.getDeclaredMethods()) {
            if (Modifier.isPublic(m.getModifiers())) {
                written(readme, "`" + m.getName() + "`");
            }
        }
        for (String refusal : List.of("UNKNOWN` (-1000000001)", "OUTSIDE` (-1000000002)", "NOT` (-1000000003)", "FULL` (-1000000004)")) {
            written(readme, "`" + refusal);
        }
        written(readme, "512 calls");
        written(readme, ".ci/run");
    }

    private static void example(String readme) {
        String text = "harvest 20,5,0;house 10 3;jar plum 0 1 6 3;";
        written(readme, "String text = \"" + text + "\";");
        DatedJars jars = new DatedJars();
        Checks.feedText(jars, text);
        answer(readme, "land()", jars.land());
        answer(readme, "plan(0, 4, -1)", jars.plan(0, 4, -1));
        answer(readme, "year(3)", jars.year(3));
        answer(readme, "jar(1, 6)", jars.jar(1, 6));
        c.due("jar(2, 6)", jars.jar(2, 6), DatedJars.UNKNOWN);
    }

    /** The line of a call has its answer behind the two strokes. */
    private static void answer(String readme, String call, int got) {
        int at = readme.indexOf("jars." + call + ";");
        String line = at < 0 ? "" : readme.substring(at, readme.indexOf('\n', at));
        c.due("README.md's line of " + call + " tells the answer " + got + " (1: yes)", line.contains("// " + got + ":") ? 1 : 0, 1);
    }
}
