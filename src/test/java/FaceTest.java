import java.io.IOException;
import java.lang.reflect.Constructor;
import java.lang.reflect.Field;
import java.lang.reflect.Method;
import java.lang.reflect.Modifier;
import java.nio.file.Files;
import java.nio.file.Path;
import java.util.Set;
import java.util.TreeSet;

/** The document's public face, and those rules of LANGUAGE.md that can be told from the class and its text. */
public final class FaceTest {
    private static final Checker CHECK = new Checker();
    private static final String SOURCE = "src/main/java/CarpetsLaw.java";
    private static final String[] METHODS = {
        "int one(int,int,int)", "int of(int,int)", "int pull(int,int)", "int put(int,int)", "int wear(int,int)",
        "int away(int,boolean)", "int row(int,int,int)", "int feed(int)", "int statute()", "int told(int)",
        "int pass(int)", "int on(int,int)", "int way(int,int,int)", "int night(int,int)", "int see(int,int,int)",
        "int from(int)", "int can(int,int)", "long odds(int,int,int)", "long mean(int,int)", "int plan(int,int)",
        "int ends(int)", "int book(int,int)", "int looked()", "int judge(int,int)", "int image()", "int undo()",
        "int act(int,int,int)", "int trace(int)", "int taken(int,int)", "int count(int)", "int tape(int,int,int)",
        "int item(int,int,long)", "long read(int,int)", "int shift(int,int,int,int,int)"
    };

    public static void main(String[] args) throws IOException {
        constants();
        members();
        methods();
        nested();
        words();
        CHECK.end();
    }

    private static void constants() {
        CHECK.about("the constants");
        CHECK.due("NONE", CarpetsLaw.NONE, -1);
        CHECK.due("BAD", CarpetsLaw.BAD, -2);
        CHECK.due("STATE", CarpetsLaw.STATE, -3);
        CHECK.due("FULL", CarpetsLaw.FULL, -4);
        CHECK.due("NO", CarpetsLaw.NO, Long.MIN_VALUE);
    }

    private static void members() {
        CHECK.about("rules 1 and 5");
        Class<CarpetsLaw> c = CarpetsLaw.class;
        CHECK.holds("public and final", Modifier.isPublic(c.getModifiers()) && Modifier.isFinal(c.getModifiers()));
        CHECK.due("constructors", c.getDeclaredConstructors().length, 1);
        for (Constructor<?> made : c.getDeclaredConstructors()) {
            CHECK.holds("the constructor", Modifier.isPublic(made.getModifiers()) && made.getParameterCount() == 0);
        }
        Set<String> seen = new TreeSet<>();
        for (Field field : c.getDeclaredFields()) {
            if (!Modifier.isPrivate(field.getModifiers())) {
                seen.add(field.getName());
            }
        }
        CHECK.holds("fields seen from outside: " + seen, seen.equals(Set.of("NONE", "BAD", "STATE", "FULL", "NO")));
    }

    private static void methods() {
        CHECK.about("rules 1 and 11");
        Set<String> open = new TreeSet<>();
        Set<String> names = new TreeSet<>();
        for (Method method : CarpetsLaw.class.getDeclaredMethods()) {
            if (!Modifier.isPrivate(method.getModifiers())) {
                CHECK.holds(method.getName() + " is public", Modifier.isPublic(method.getModifiers()));
                open.add(signature(method));
                names.add(method.getName());
            }
        }
        CHECK.holds("the methods: " + open, open.equals(Set.of(METHODS)));
        for (Method method : CarpetsLaw.class.getDeclaredMethods()) {
            boolean clash = Modifier.isPrivate(method.getModifiers()) && names.contains(method.getName());
            CHECK.holds("no private " + method.getName(), !clash);
        }
    }

    private static String signature(Method method) {
        StringBuilder text = new StringBuilder(method.getReturnType() + " " + method.getName() + "(");
        String comma = "";
        for (Class<?> type : method.getParameterTypes()) {
            text.append(comma).append(type);
            comma = ",";
        }
        return text.append(')').toString();
    }

    private static void nested() {
        CHECK.about("rules 2, 5 and 11");
        Class<?>[] inside = CarpetsLaw.class.getDeclaredClasses();
        CHECK.holds("some twelve classes", inside.length + 1 <= 12);
        for (Class<?> c : inside) {
            CHECK.holds(c + " is static", Modifier.isStatic(c.getModifiers()));
            CHECK.holds(c + " is not seen from outside", !Modifier.isPublic(c.getModifiers()));
            fields(c);
            for (Method method : c.getDeclaredMethods()) {
                CHECK.holds(c + "." + method.getName() + ": at most seven parameters", method.getParameterCount() <= 7);
            }
        }
        fields(CarpetsLaw.class);
    }

    private static void fields(Class<?> c) {
        int own = 0;
        for (Field field : c.getDeclaredFields()) {
            boolean isStatic = Modifier.isStatic(field.getModifiers());
            CHECK.holds(c + "." + field.getName() + " is final", !isStatic || Modifier.isFinal(field.getModifiers()));
            own += isStatic ? 0 : 1;
        }
        CHECK.holds(c + ": some twenty fields", own <= 20);
    }

    private static void words() throws IOException {
        CHECK.about("rules 2, 4 and 6");
        String source = Files.readString(Path.of(SOURCE));
        String code = source.replaceAll("(?s)/\\*.*?\\*/", " ").replaceAll("//[^\n]*", " ");
        String[] none = {
            "\\bthrow\\b", "\\bthrows\\b", "\\btry\\b", "\\bcatch\\b", "\\bsynchronized\\b", "\\bassert\\b", "->", "::",
            "\\bimport\\b", "\\bpackage\\b", "Exact\\b", "\\bequals\\b", "\\bhashCode\\b", "\\btoString\\b", "@",
            "\\bvar\\b", "\\bdouble\\b", "\\bfloat\\b", "\\bprotected\\b", "\\bstatic \\{"
        };
        for (String word : none) {
            CHECK.holds("none of " + word, !java.util.regex.Pattern.compile(word).matcher(code).find());
        }
        CHECK.holds("signs 1 to 127 alone", source.chars().allMatch(sign -> sign > 0 && sign < 128));
    }
}
