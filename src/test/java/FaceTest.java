import java.io.IOException;
import java.lang.reflect.Constructor;
import java.lang.reflect.Field;
import java.lang.reflect.Method;
import java.lang.reflect.Modifier;
import java.nio.file.Files;
import java.nio.file.Path;
import java.util.HashSet;
import java.util.Set;
import java.util.TreeSet;
import java.util.regex.Matcher;
import java.util.regex.Pattern;

/** The class's face, and those rules of LANGUAGE.md that a look at the text or at the class can tell. */
public final class FaceTest {
    private static final String[] METHODS = {
        "int mend(int,int)", "int of(int)", "int feed(int)", "int law()", "int weight(int)", "int worst(int,int)",
        "int reach(int)", "int mean(int,int,int)", "int meanFirst(int,int)", "int trodden(int,int,int)",
        "int price(int,int)", "int two(int,int,int)", "int ruled(int,int,int)", "int step(int,int,int)",
        "long shards(int,int)", "int judge(int)", "int left(int,int)", "int wise(int)", "int drawn(int,int,int)",
        "int hide(int)", "int drop(int)", "int drops(int,int,int)", "int guess(int)", "int led(int)", "int image()",
        "int back()", "int undo()", "int redo()", "int body(int)", "int act(int,int,int)", "int trace(int)",
        "int keep(int,int)", "int row(int,int,int)", "int put(int,int,long)", "long element(int,int)",
        "int shift(int,int,int,int,int)", "int taken(int,int)", "int count(int)"};

    private static String signed(Method method) {
        StringBuilder text = new StringBuilder(method.getReturnType().getName());
        text.append(' ').append(method.getName()).append('(');
        for (Class<?> type : method.getParameterTypes()) {
            text.append(text.charAt(text.length() - 1) == '(' ? "" : ",").append(type.getName());
        }
        return text.append(')').toString();
    }

    private static void face(Check check) throws IllegalAccessException {
        Set<String> due = new TreeSet<>(Set.of(METHODS));
        Set<String> got = new TreeSet<>();
        Set<String> names = new HashSet<>();
        for (Method method : TwoJars.class.getDeclaredMethods()) {
            if (!Modifier.isPrivate(method.getModifiers())) {
                got.add(signed(method));
                names.add(method.getName());
                check.due(method.getName() + " is public", method.getModifiers(), Modifier.PUBLIC);
            }
        }
        System.out.println("FaceTest: " + got.size() + " methods");
        check.due("the methods are those of the document", got.equals(due) ? 1 : 0, 1);
        privateNames(check, TwoJars.class, names);
        check.due("constructors", TwoJars.class.getDeclaredConstructors().length, 1);
        for (Constructor<?> made : TwoJars.class.getDeclaredConstructors()) {
            check.due("the constructor", made.getModifiers() * 10 + made.getParameterCount(), 10);
        }
        check.due("the class", TwoJars.class.getModifiers(), Modifier.PUBLIC | Modifier.FINAL);
        long sum = 0;
        int constants = 0;
        for (Field field : TwoJars.class.getDeclaredFields()) {
            if (!Modifier.isPrivate(field.getModifiers())) {
                check.due(field.getName(), field.getModifiers(), Modifier.PUBLIC | Modifier.STATIC | Modifier.FINAL);
                sum += field.getInt(null);
                constants++;
            }
        }
        check.due("constants", constants, 5);
        check.due("all constants together", sum, -2000000011L);
    }

    private static void privateNames(Check check, Class<?> type, Set<String> names) {
        for (Method method : type.getDeclaredMethods()) {
            boolean inside = type != TwoJars.class || Modifier.isPrivate(method.getModifiers());
            check.due(type.getName() + " " + method.getName(), inside && names.contains(method.getName()) ? 1 : 0, 0);
            check.due(method.getName() + ": parameters", Math.min(7, method.getParameterCount()), method.getParameterCount());
        }
        for (Class<?> nested : type.getDeclaredClasses()) {
            privateNames(check, nested, names);
        }
    }

    private static void shape(Check check) {
        Class<?>[] inside = TwoJars.class.getDeclaredClasses();
        check.due("at most twelve classes", inside.length + 1 <= 12 ? 1 : 0, 1);
        for (Class<?> type : inside) {
            int need = Modifier.STATIC;
            check.due(type + " is static", type.getModifiers() & need, need);
            check.due(type + " is not public", type.getModifiers() & (Modifier.PUBLIC | Modifier.PROTECTED), 0);
            fields(check, type);
        }
        fields(check, TwoJars.class);
    }

    private static void fields(Check check, Class<?> type) {
        int own = 0;
        for (Field field : type.getDeclaredFields()) {
            if (Modifier.isStatic(field.getModifiers())) {
                check.due(field + " is final", field.getModifiers() & Modifier.FINAL, Modifier.FINAL);
            } else {
                own++;
            }
        }
        check.due(type + ": at most twenty fields", own <= 20 ? 1 : 0, 1);
    }

    private static void text(Check check) throws IOException {
        String text = Files.readString(Path.of("src/main/java/TwoJars.java"));
        String bare = text.replaceAll("(?s)/\\*.*?\\*/", "").replaceAll("//[^\n]*", "").replaceAll("'[^'\n]'", "0");
        String[] words = {"throw", "throws", "try", "catch", "finally", "synchronized", "assert", "enum", "record",
            "native", "transient", "volatile", "strictfp", "package", "var", "yield", "equals", "hashCode", "toString",
            "System.out", "Exact", "String", "Object", "double", "float"};
        for (String word : words) {
            Matcher found = Pattern.compile("\\b" + Pattern.quote(word) + (word.equals("Exact") ? "" : "\\b")).matcher(bare);
            check.due("the word " + word, found.find() ? 1 : 0, 0);
        }
        check.due("arrows", bare.contains("->") || bare.contains("::") ? 1 : 0, 0);
        check.due("blocks of static", bare.matches("(?s).*\\bstatic\\s*\\{.*") ? 1 : 0, 0);
        check.due("imports", bare.split("\\bimport\\b", -1).length - 1, 1);
        check.due("import of Arrays", bare.contains("import java.util.Arrays;") ? 1 : 0, 1);
        check.due("other signs than ASCII", text.chars().anyMatch(c -> c > 126 || c < 10) ? 1 : 0, 0);
        int start = 0;
        String[] lines = text.split("\n");
        for (int i = 0; i < lines.length; i++) {
            if (lines[i].matches(" {4,8}[a-z].*\\) \\{")) {
                start = i;
            }
            check.due("line " + (i + 1) + " of a method of at most sixty lines",
                lines[i].matches(" {4,8}\\}") && i - start > 60 && start > 0 && lines[start].startsWith(lines[i].replace("}", "p"))
                    ? 1 : 0, 0);
        }
    }

    public static void main(String[] args) throws Exception {
        Check check = new Check("FaceTest");
        face(check);
        shape(check);
        text(check);
        check.end();
    }
}
