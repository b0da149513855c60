import java.lang.reflect.Constructor;
import java.lang.reflect.Field;
import java.lang.reflect.Method;
import java.lang.reflect.Modifier;
import java.nio.file.Files;
import java.nio.file.Path;
import java.util.ArrayList;
import java.util.Arrays;
import java.util.HashSet;
import java.util.List;
import java.util.Map;
import java.util.Set;
import java.util.TreeMap;
import java.util.TreeSet;
import java.util.regex.Matcher;
import java.util.regex.Pattern;

/** The public face, and those rules of LANGUAGE.md that can be seen from the class and its text. */
public final class LanguageTest {
    private static final String[] FACE = {
        "int row(int,int,int)", "int set(int,int,int)", "int copy(int,int,int,int,int)", "int drop(int)",
        "int feed(int)", "int town()", "int fault()", "int undo()", "int days(int)", "int send(int,int)",
        "int weight(int,int)", "int bar(int,int)", "int patience(int,int)", "int leaver(int,int)",
        "int man(int,int)", "int ahead(int,int)", "int awayAhead(int,int)", "int first(int)",
        "int reach(int,int)", "int usual(int,int)", "int fewest(int,int,int,int)",
        "int bestHouse(int,int,int)", "int tells(int,int)", "int who(int,int,int,int,int)",
        "int houses(int,int,int,int,int)", "int weights(int,int,int,int,int)",
        "int absent(int,int,int,int)", "int greets(int)", "int talk(int,int)", "int alone()",
        "long rain(int,int,int,int)", "int drawn(int,int,int)", "int image(int)", "int restore(int)",
        "int kind(int)", "int as(int,int)", "int ask(int,int)", "int trace(int)", "int count(int)",
        "int status()"};
    private static final String[] BARRED_WORDS = {
        "throw", "throws", "try", "catch", "finally", "synchronized", "assert", "->", "::", "import",
        "package", "System.out", "Exact", "hashCode", "toString", "Random", "Thread", "native"};
    private static final Due due = new Due("LanguageTest");

    public static void main(String[] args) throws Exception {
        face();
        constants();
        classesInside();
        String source = Files.readString(Path.of("src/main/java/LeftAlone.java"));
        String code = source.replaceAll("(?s)/\\*.*?\\*/", "").replaceAll("//[^\n]*", "");
        text(source, code);
        library(code);
        headings(source);
        methods(code);
        due.end();
    }

    private static String told(Method m) {
        List<String> types = new ArrayList<>();
        for (Class<?> type : m.getParameterTypes()) {
            types.add(type.getName());
        }
        return m.getReturnType().getName() + " " + m.getName() + "(" + String.join(",", types) + ")";
    }

    private static void face() {
        Set<String> open = new TreeSet<>();
        Set<String> names = new HashSet<>();
        for (Method m : LeftAlone.class.getDeclaredMethods()) {
            if (Modifier.isPublic(m.getModifiers())) {
                open.add(told(m));
                names.add(m.getName());
                due.holds(m.getName() + " is no static one", !Modifier.isStatic(m.getModifiers()));
            }
        }
        due.holds("the face: " + open, open.equals(new TreeSet<>(Arrays.asList(FACE))));
        List<Class<?>> all = new ArrayList<>(Arrays.asList(LeftAlone.class.getDeclaredClasses()));
        all.add(LeftAlone.class);
        for (Class<?> c : all) {
            for (Method m : c.getDeclaredMethods()) {
                if (c != LeftAlone.class || !Modifier.isPublic(m.getModifiers())) {
                    due.holds("no other method is named " + m.getName(), !names.contains(m.getName()));
                }
                if (c == LeftAlone.class && !Modifier.isPublic(m.getModifiers()) && !m.isSynthetic()) {
                    due.holds(m.getName() + " is private", Modifier.isPrivate(m.getModifiers()));
                }
                due.holds(m.getName() + " has 7 parameters at most", m.getParameterCount() <= 7);
            }
        }
        Constructor<?>[] made = LeftAlone.class.getDeclaredConstructors();
        due.is("constructors", made.length, 1);
        due.holds("it is public, of nothing", Modifier.isPublic(made[0].getModifiers())
                && made[0].getParameterCount() == 0);
        due.holds("the class is public and final", Modifier.isPublic(LeftAlone.class.getModifiers())
                && Modifier.isFinal(LeftAlone.class.getModifiers()));
    }

    private static void constants() throws Exception {
        due.is("NONE", LeftAlone.NONE, -1000000);
        due.is("BAD", LeftAlone.BAD, -1000001);
        due.is("STATE", LeftAlone.STATE, -1000002);
        due.is("FULL", LeftAlone.FULL, -1000003);
        Set<String> open = new TreeSet<>();
        for (Field f : LeftAlone.class.getDeclaredFields()) {
            if (!Modifier.isPrivate(f.getModifiers())) {
                open.add(f.getName());
            }
            if (Modifier.isStatic(f.getModifiers())) {
                due.holds(f.getName() + " is final", Modifier.isFinal(f.getModifiers()));
            }
        }
        due.holds("open fields: " + open, open.equals(new TreeSet<>(List.of("NONE", "BAD", "STATE", "FULL"))));
    }

    private static void classesInside() {
        Class<?>[] inside = LeftAlone.class.getDeclaredClasses();
        due.holds("some twelve classes at most", inside.length <= 12);
        for (Class<?> c : inside) {
            due.holds(c.getName() + " is static", Modifier.isStatic(c.getModifiers()));
            due.holds(c.getName() + " is not open", !Modifier.isPublic(c.getModifiers())
                    && !Modifier.isProtected(c.getModifiers()));
            int fields = 0;
            for (Field f : c.getDeclaredFields()) {
                fields += Modifier.isStatic(f.getModifiers()) ? 0 : 1;
                due.holds(f.getName() + " is no static state", !Modifier.isStatic(f.getModifiers())
                        || Modifier.isFinal(f.getModifiers()));
            }
            due.holds(c.getName() + " has some twenty fields at most", fields <= 20);
        }
    }

    private static void text(String source, String code) {
        for (String word : BARRED_WORDS) {
            String edge = Character.isLetter(word.charAt(0)) ? "\\b" : "";
            Matcher m = Pattern.compile(edge + Pattern.quote(word) + edge).matcher(code);
            due.holds("no " + word, !m.find());
        }
        for (int i = 0; i < source.length(); i++) {
            due.holds("signs 1 to 127 alone", source.charAt(i) > 0 && source.charAt(i) < 128);
        }
    }

    private static void library(String code) {
        Matcher library = Pattern.compile("\\b(System|Math|Integer|Long|Arrays)\\.(\\w+)").matcher(code);
        Set<String> allowed = Set.of("System.arraycopy", "Math.min", "Math.max", "Integer.bitCount");
        while (library.find()) {
            due.holds(library.group() + " is of the library", allowed.contains(library.group()));
        }
        // All that is made is made with the object: no call makes anything.
        for (String line : code.split("\n")) {
            if (line.contains("new ")) {
                boolean kept = line.matches("\\s*(private )?final int\\[\\] \\w+ = new int\\[.*\\];")
                        || line.matches("\\s*private final Town\\[\\] before = new Town\\[MOST_ACTS\\];")
                        || line.matches("\\s*(rows|images|bodies|before|reader|acts|town|trial)(\\[\\w\\])? = new .*;");
                due.holds("made with the object: " + line.trim(), kept);
            }
        }
    }

    /** "Ahead of the calls .. the interface says": each heading, then its calls in their order. */
    private static void headings(String source) {
        String[][] told = {
            {"rows", "row", "drop"}, {"what is told", "feed", "undo"}, {"what is done", "days", "man"},
            {"foretold", "ahead", "restore"}, {"asked", "kind", "status"}};
        int at = 0;
        for (String[] part : told) {
            for (String mark : new String[] {"// ---- " + part[0] + "\n", " " + part[1] + "(", " " + part[2] + "("}) {
                at = source.indexOf(mark.startsWith("/") ? mark : "public int" + mark, at);
                due.holds(mark.trim() + " in its place", at >= 0);
                at = Math.max(at, 0);
            }
        }
        at = 0;
        for (String call : FACE) {
            int next = source.indexOf("public " + call.substring(0, call.indexOf('(') + 1));
            due.holds(call + " in the order of the face", next > at);
            at = next;
        }
    }

    /** Methods are short, and calls that are no recursion go eight deep at most. */
    private static void methods(String code) {
        Map<String, String> bodies = new TreeMap<>();
        Matcher m = Pattern.compile("(?m)^ +(?:public |private |static )*\\w+ (\\w+)\\([^;()]*\\) \\{$").matcher(code);
        while (m.find()) {
            String indent = m.group().replaceAll("\\S.*", "");
            String body = code.substring(m.end(), code.indexOf("\n" + indent + "}", m.end()));
            due.holds(m.group(1) + " is short", body.split("\n").length <= 60);
            due.holds(m.group(1) + " is the only one of its name", bodies.put(m.group(1), body) == null);
        }
        due.holds("methods were found", bodies.size() >= FACE.length + 40);
        for (String call : bodies.keySet()) {
            int deep = depth(call, bodies, 0);
            due.holds(call + " goes eight deep at most: " + deep, deep <= 8);
        }
    }

    private static int depth(String name, Map<String, String> bodies, int open) {
        int deepest = 0;
        for (String other : bodies.keySet()) {
            boolean called = Pattern.compile("\\b" + other + "\\(").matcher(bodies.get(name)).find();
            if (called && !other.equals(name) && open < 20) {
                deepest = Math.max(deepest, depth(other, bodies, open + 1));
            }
        }
        return 1 + deepest;
    }
}
