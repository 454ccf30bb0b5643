import java.io.IOException;
import java.lang.reflect.Constructor;
import java.lang.reflect.Field;
import java.lang.reflect.Method;
import java.lang.reflect.Modifier;
import java.nio.file.Files;
import java.nio.file.Path;
import java.util.ArrayList;
import java.util.HashMap;
import java.util.HashSet;
import java.util.List;
import java.util.Map;
import java.util.Set;
import java.util.regex.Matcher;
import java.util.regex.Pattern;

/** The rules of LANGUAGE.md that can be looked up in the class and in its text. */
public final class LanguageTest {
    private static final Checks c = new Checks("LanguageTest");
    private static final String FACE = "feed(int,long) land() fault() told(int) house(int,int) jar(int,int) law(int) seals(int,int) "
        + "give(int,int) label(int,int) open(int) year(int) drift(int) plan(int,int,int) sealing(int,int) change(int) bequest(int,int) "
        + "siege(int,int) when(int,int) older(int,int) forged() write(int,int) tear() judge() seed(int) keep(int) goBack(int)";
    private static final List<String> NOT_WRITTEN = List.of("\\bthrow\\b", "\\bthrows\\b", "\\btry\\b", "\\bcatch\\b", "\\bfinally\\b",
        "\\bsynchronized\\b", "\\bassert\\b", "\\bimport\\b", "\\bpackage\\b", "->", "::", "Exact\\b", "\\bthis\\.getClass\\b", "@",
        "\\bSystem\\.(?!arraycopy\\b)", "\\bstatic\\s*\\{", "\\bwhile \\(true\\)", "for \\(;;", "\\bdouble\\b", "\\bfloat\\b",
        "\\b(Integer|Long|Math)\\.(?![a-z]\\w*\\()");

    public static void main(String[] args) throws IOException {
        face();
        constants();
        members();
        text(Files.readString(Path.of("src/main/java/DatedJars.java")));
        c.finish();
    }

    private static String signature(Method m) {
        StringBuilder s = new StringBuilder(m.getName()).append('(');
        for (Class<?> p : m.getParameterTypes()) {
            s.append(s.charAt(s.length() - 1) == '(' ? "" : ",").append(p.getName());
        }
        return s.append(')').toString();
    }

    private static void yes(String what, boolean so) {
        c.due(what, so ? 1 : 0, 1);
    }

    private static void face() {
        Set<String> due = new HashSet<>(List.of(FACE.split(" ")));
        Set<String> names = new HashSet<>();
        due.forEach(d -> names.add(d.substring(0, d.indexOf('('))));
        int seen = 0;
        for (Method m : DatedJars.class.getDeclaredMethods()) {
            if (Modifier.isPublic(m.getModifiers())) {
                seen++;
                yes("in the face: " + signature(m), due.contains(signature(m)) && m.getReturnType() == int.class);
            } else {
                yes("private: " + signature(m), Modifier.isPrivate(m.getModifiers()) && !names.contains(m.getName()));
            }
        }
        c.due("methods of the face", seen, 27);
        Constructor<?>[] made = DatedJars.class.getDeclaredConstructors();
        yes("one public constructor", made.length == 1 && Modifier.isPublic(made[0].getModifiers()) && made[0].getParameterCount() == 0);
        yes("public and final", Modifier.isPublic(DatedJars.class.getModifiers()) && Modifier.isFinal(DatedJars.class.getModifiers()));
        for (Class<?> inner : DatedJars.class.getDeclaredClasses()) {
            yes("static: " + inner, Modifier.isStatic(inner.getModifiers()) && !Modifier.isPublic(inner.getModifiers()));
            for (Method m : inner.getDeclaredMethods()) {
                yes("a name of its own: " + inner + " " + m.getName(), !names.contains(m.getName()));
            }
        }
    }

    private static void constants() {
        c.due("NONE", DatedJars.NONE, -1);
        c.due("UNKNOWN", DatedJars.UNKNOWN, -1000000001);
        c.due("OUTSIDE", DatedJars.OUTSIDE, -1000000002);
        c.due("NOT", DatedJars.NOT, -1000000003);
        c.due("FULL", DatedJars.FULL, -1000000004);
    }

    private static void members() {
        List<Class<?>> all = new ArrayList<>(List.of(DatedJars.class.getDeclaredClasses()));
        all.add(DatedJars.class);
        yes("twelve classes at most", all.size() <= 12);
        Set<String> open = Set.of("NONE", "UNKNOWN", "OUTSIDE", "NOT", "FULL");
        for (Class<?> k : all) {
            int fields = 0;
            for (Field f : k.getDeclaredFields()) {
                boolean fixed = Modifier.isStatic(f.getModifiers());
                fields += fixed ? 0 : 1;
                yes("static ones are final: " + f, !fixed || Modifier.isFinal(f.getModifiers()));
                if (k == DatedJars.class) {
                    yes("private: " + f, Modifier.isPrivate(f.getModifiers()) != open.contains(f.getName()));
                }
            }
            yes("twenty fields at most: " + k, fields <= 20);
            for (Method m : k.getDeclaredMethods()) {
                yes("seven parameters at most: " + m, m.getParameterCount() <= 7);
            }
        }
    }

    private static void text(String source) {
        String code = source.replaceAll("(?s)/\\*.*?\\*/", "").replaceAll("//[^\n]*", "");
        for (String pattern : NOT_WRITTEN) {
            yes("not written: " + pattern, !Pattern.compile(pattern).matcher(code).find());
        }
        yes("signs 0 to 127 alone", source.chars().allMatch(s -> s < 128));
        for (String line : code.split("\n")) {
            // the room is one for all calls: rows are made with the object alone
            yes("made with the object: " + line.trim(), !line.contains("new ") || line.trim().matches("(private )?final .*"));
        }
        methods(code);
    }

    private static void methods(String code) {
        String[] lines = code.split("\n");
        Pattern head = Pattern.compile("^( {4}| {8})(?:public |private |static )*(?:int|boolean|void|long) (\\w+)\\(.*\\) \\{$");
        Map<String, String> bodies = new HashMap<>();
        for (int i = 0; i < lines.length; i++) {
            Matcher m = head.matcher(lines[i]);
            if (m.matches()) {
                int end = i;
                while (!lines[end].equals(m.group(1) + "}")) {
                    end++;
                }
                yes("sixty lines at most: " + m.group(2), end - i < 60);
                bodies.merge(m.group(2), String.join("\n", List.of(lines).subList(i + 1, end)), String::concat);
            }
        }
        yes("methods were found", bodies.size() > 60);
        for (String name : bodies.keySet()) {
            yes("eight calls deep at most: " + name, depth(name, bodies, 0) <= 8);
        }
    }

    /** By names alone: methods of one name in several classes count as one. */
    private static int depth(String name, Map<String, String> bodies, int above) {
        if (above > 8 || !bodies.containsKey(name)) {
            return above > 8 ? 9 : 1;
        }
        int deepest = 0;
        Matcher m = Pattern.compile("(\\w+)\\(").matcher(bodies.get(name));
        while (m.find()) {
            // copyFrom of a land calls copyFrom of its cellar: no recursion, and two deep
            if (bodies.containsKey(m.group(1)) && !(name.equals("copyFrom") && m.group(1).equals("copyFrom"))) {
                deepest = Math.max(deepest, depth(m.group(1), bodies, above + 1));
            }
        }
        return deepest + 1;
    }
}
