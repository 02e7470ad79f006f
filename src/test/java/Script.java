import java.lang.reflect.InvocationTargetException;
import java.lang.reflect.Method;
import java.util.HashMap;
import java.util.Map;

/**
 * Runs of calls written as lines, each run on a new object: "name arguments = answer", or without " = answer" where
 * only what comes behind is asked. Besides the calls: "text T" feeds T and calls law(), "lay SHELF SORT ELEMENTS"
 * lays a row and what is in it, "times N CALL" calls N times. MIN, MAX, LMIN, LMAX are the ends of int and long.
 */
final class Script {
    private static final Map<String, Method> CALLS = new HashMap<>();
    private static final Map<String, Long> NAMED = Map.of("MIN", (long) Integer.MIN_VALUE, "MAX",
        (long) Integer.MAX_VALUE, "LMIN", Long.MIN_VALUE, "LMAX", Long.MAX_VALUE);

    static {
        for (Method method : TwoJars.class.getMethods()) {
            if (method.getDeclaringClass() == TwoJars.class) {
                CALLS.put(method.getName(), method);
            }
        }
    }

    private final Check check;
    private final String sentence;
    private final TwoJars x = new TwoJars();

    private Script(Check check, String sentence) {
        this.check = check;
        this.sentence = sentence;
    }

    /** One sentence of the document and a run of calls that would answer otherwise if it were broken. */
    static void run(Check check, String sentence, String lines) {
        Script script = new Script(check, sentence);
        int asked = 0;
        for (String line : lines.split("\n")) {
            asked += line.isBlank() ? 0 : script.line(line.trim());
        }
        check.due(sentence + ": the run asks for something", Math.min(1, asked), 1);
    }

    private int line(String line) {
        int end = line.lastIndexOf(" = ");
        if (end < 0) {
            did(line);
            return 0;
        }
        check.due("\"" + sentence + "\": " + line.substring(0, end), did(line.substring(0, end)),
            number(line.substring(end + 3).trim()));
        return 1;
    }

    private long did(String call) {
        String[] words = call.trim().split(" +");
        switch (words[0]) {
            case "text":
                return Check.law(x, words.length < 2 ? "" : words[1]);
            case "lay":
                long[] elements = new long[words.length - 3];
                for (int i = 0; i < elements.length; i++) {
                    elements[i] = number(words[i + 3]);
                }
                Check.lay(x, (int) number(words[1]), (int) number(words[2]), elements);
                return 1;
            case "times":
                long last = 0;
                for (long i = number(words[1]); i > 0; i--) {
                    last = did(call.trim().split(" +", 3)[2]);
                }
                return last;
            default:
                return called(words);
        }
    }

    private long called(String[] words) {
        Method method = CALLS.get(words[0]);
        if (method == null || method.getParameterCount() != words.length - 1) {
            throw new IllegalArgumentException(sentence + ": no such call: " + String.join(" ", words));
        }
        Object[] arguments = new Object[words.length - 1];
        for (int i = 0; i < arguments.length; i++) {
            long v = number(words[i + 1]);
            if (method.getParameterTypes()[i] == int.class) {
                arguments[i] = Math.toIntExact(v);
            } else {
                arguments[i] = v;
            }
        }
        try {
            return ((Number) method.invoke(x, arguments)).longValue();
        } catch (InvocationTargetException e) {
            throw new IllegalStateException(sentence + ": " + String.join(" ", words) + " threw", e.getCause());
        } catch (IllegalAccessException e) {
            throw new IllegalStateException(e);
        }
    }

    private static long number(String word) {
        Long named = NAMED.get(word);
        return named != null ? named : Long.parseLong(word);
    }
}
