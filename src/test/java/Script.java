import java.lang.reflect.InvocationTargetException;
import java.lang.reflect.Method;
import java.util.HashMap;
import java.util.Map;

/**
 * A run of calls on a new object, told as texts: "one 0 3 12 = 0" is the call, its numbers and the answer that is
 * due (which may be left out). "law bald 9 = 0" feeds a text and makes it a statute. PlainLaw is asked the same,
 * so that neither a test nor the second writing of the document goes astray alone.
 */
final class Script {
    private static final int CALLS = 512;
    private static final Map<String, Long> NAMES = Map.ofEntries(
        Map.entry("NONE", -1L), Map.entry("BAD", -2L), Map.entry("STATE", -3L), Map.entry("FULL", -4L),
        Map.entry("NEVER", -5L), Map.entry("NOTHING", -11L), Map.entry("CAST", -12L), Map.entry("PLACE", -13L),
        Map.entry("SIZE", -14L), Map.entry("NO", Long.MIN_VALUE), Map.entry("MIN", (long) Integer.MIN_VALUE),
        Map.entry("MAX", (long) Integer.MAX_VALUE), Map.entry("LMIN", Long.MIN_VALUE),
        Map.entry("LMAX", Long.MAX_VALUE));
    private static final Map<String, Method> CALLS_OF_CLASS = methods(CarpetsLaw.class);
    private static final Map<String, Method> CALLS_OF_PLAIN = methods(PlainLaw.class);

    private final Checker check;
    private final CarpetsLaw law = new CarpetsLaw();
    private final PlainLaw plain = new PlainLaw();
    private final StringBuilder before = new StringBuilder();
    private int calls;

    Script(Checker check) {
        this.check = check;
    }

    static Script run(Checker check, String... steps) {
        return new Script(check).then(steps);
    }

    Script then(String... steps) {
        for (String step : steps) {
            int end = step.lastIndexOf(" = ");
            if (end < 0) {
                ask(step);
            } else {
                due(step.substring(0, end), ask(step.substring(0, end)), number(step.substring(end + 3)));
            }
            before.append(before.length() > 0 ? ", " : "").append(step);
        }
        return this;
    }

    Script times(int n, String step) {
        for (int i = 0; i < n; i++) {
            then(step);
        }
        return this;
    }

    /** A step for each of the numbers from .. to, which stands for the # in it. */
    Script each(int from, int to, String step) {
        for (int i = from; i <= to; i++) {
            then(step.replace("#", Integer.toString(i)));
        }
        return this;
    }

    /** HOURS go until it is the one told. */
    Script untilHour(int hour) {
        for (int now = (int) ask("told 0"); now < hour; now = (int) ask("told 0")) {
            ask("pass " + Math.min(60, hour - now));
        }
        return then("told 0 = " + hour);
    }

    long ask(String call) {
        if (call.startsWith("law ")) {
            for (char sign : call.substring(4).toCharArray()) {
                ask("feed " + (int) sign);
            }
            return ask("statute");
        }
        calls++;
        if (calls > CALLS) {
            check.holds("at most " + CALLS + " calls of one object", false);
        }
        long got = answer(CALLS_OF_CLASS, law, call);
        due("PlainLaw: " + call, answer(CALLS_OF_PLAIN, plain, call), got);
        return got;
    }

    private void due(String call, long got, long want) {
        check.due(got == want ? call : "[" + before + "] " + call, got, want);
    }

    private static long answer(Map<String, Method> methods, Object object, String call) {
        String[] words = call.trim().split(" +");
        Method method = methods.get(words[0]);
        if (method == null || method.getParameterCount() != words.length - 1) {
            throw new IllegalArgumentException("no such call: " + call);
        }
        Object[] with = new Object[words.length - 1];
        for (int i = 0; i < with.length; i++) {
            with[i] = argument(method.getParameterTypes()[i], words[i + 1]);
        }
        try {
            return ((Number) method.invoke(object, with)).longValue();
        } catch (IllegalAccessException | InvocationTargetException e) {
            throw new IllegalStateException(call, e);
        }
    }

    private static Object argument(Class<?> type, String word) {
        if (type == boolean.class) {
            return Boolean.valueOf(word);
        }
        long n = number(word);
        if (type == long.class) {
            return n;
        }
        return Math.toIntExact(n);
    }

    private static long number(String word) {
        Long named = NAMES.get(word);
        return named != null ? named : Long.parseLong(word);
    }

    private static Map<String, Method> methods(Class<?> c) {
        Map<String, Method> methods = new HashMap<>();
        for (Method face : CarpetsLaw.class.getMethods()) {
            if (face.getDeclaringClass() == CarpetsLaw.class) {
                try {
                    methods.put(face.getName(), c.getDeclaredMethod(face.getName(), face.getParameterTypes()));
                } catch (NoSuchMethodException e) {
                    throw new IllegalStateException(face.getName(), e);
                }
            }
        }
        return methods;
    }
}
