import java.io.IOException;
import java.lang.reflect.Field;
import java.lang.reflect.Method;
import java.nio.file.Files;
import java.nio.file.Path;
import java.util.Set;
import java.util.TreeSet;
import java.util.regex.Matcher;
import java.util.regex.Pattern;

/** The runs of calls that README.md shows answer what it says, and it names the whole face. */
public final class ReadmeTest {
    private static final Pattern BLOCK = Pattern.compile("(?s)### ([^\n]*)\n((?:(?!### ).)*?)```java\n(.*?)```");
    private static final Pattern CALL = Pattern.compile("jars\\.(\\w+)\\(([^)]*)\\); +// (-?\\d+)(?::.*)?");
    private static final Pattern LETTER = Pattern.compile("'(.)'");

    /** A line of README.md in the form that Script runs. */
    private static String scripted(Check check, String line) {
        Matcher call = CALL.matcher(line);
        boolean told = call.matches();
        check.due("README.md tells the answer of " + line, told ? 1 : 0, 1);
        if (!told) {
            return "";
        }
        String arguments = LETTER.matcher(call.group(2)).replaceAll(letter -> "" + (int) letter.group(1).charAt(0));
        return call.group(1) + " " + arguments.replace(",", " ") + " = " + call.group(3) + "\n";
    }

    private static void runs(Check check, String text) {
        Matcher block = BLOCK.matcher(text);
        int blocks = 0;
        while (block.find()) {
            String[] lines = block.group(3).split("\n");
            check.due("a run begins with a new object", lines[0].equals("TwoJars jars = new TwoJars();") ? 1 : 0, 1);
            StringBuilder script = new StringBuilder();
            for (int i = 1; i < lines.length; i++) {
                script.append(scripted(check, lines[i]));
            }
            Script.run(check, "README.md, " + block.group(1), script.toString());
            blocks++;
        }
        check.due("runs in README.md", blocks, text.split("```java").length - 1);
        check.due("README.md has runs", Math.min(1, blocks), 1);
    }

    private static void names(Check check, String text) {
        Set<String> names = new TreeSet<>();
        for (Method method : TwoJars.class.getMethods()) {
            if (method.getDeclaringClass() == TwoJars.class) {
                names.add(method.getName());
                check.due("README.md shows a call of " + method.getName(),
                    text.contains("jars." + method.getName() + "(") ? 1 : 0, 1);
            }
        }
        for (Field field : TwoJars.class.getFields()) {
            names.add(field.getName());
        }
        for (String name : names) {
            check.due("README.md names " + name, text.contains("`" + name + "`") ? 1 : 0, 1);
        }
    }

    public static void main(String[] args) throws IOException {
        Check check = new Check("ReadmeTest");
        String text = Files.readString(Path.of("README.md"));
        runs(check, text);
        names(check, text);
        check.end();
    }
}
