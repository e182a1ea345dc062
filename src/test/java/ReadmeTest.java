import java.io.IOException;
import java.lang.reflect.Method;
import java.lang.reflect.Modifier;
import java.nio.file.Files;
import java.nio.file.Path;
import java.util.TreeSet;
import java.util.regex.Matcher;
import java.util.regex.Pattern;

/** README.md tells the truth: each call of its examples answers what is said behind it, and it names all calls and tests. */
public final class ReadmeTest {
    private static final Due DUE = new Due("README.md");
    private static final Pattern CALL = Pattern.compile("file\\.(\\w+)\\((.*?)\\); +// (-?\\d+).*");
    private static final Pattern TEXT = Pattern.compile("for \\(char \\w+ : \"(.*)\"\\.toCharArray\\(\\)\\) \\{");

    private static HeapFile file = new HeapFile();
    private static int calls;

    public static void main(String[] args) throws IOException {
        String page = Files.readString(Path.of("README.md"));
        boolean inExample = false;
        for (String line : page.split("\n")) {
            if (line.startsWith("```")) {
                inExample = line.equals("```java");
            } else if (inExample) {
                look(line);
            }
        }
        DUE.same("there are examples", calls > 20, true);
        TreeSet<String> unnamed = new TreeSet<>();
        for (Method m : HeapFile.class.getDeclaredMethods()) {
            if (Modifier.isPublic(m.getModifiers()) && !page.contains("`" + m.getName() + "`")) {
                unnamed.add(m.getName());
            }
        }
        DUE.same("calls that are not named", unnamed.toString(), "[]");
        DUE.same("tests that are not named", unnamedTests(page), "");
        DUE.end();
    }

    private static String unnamedTests(String page) throws IOException {
        StringBuilder unnamed = new StringBuilder();
        try (var files = Files.newDirectoryStream(Path.of("src/test/java"), "*Test.java")) {
            for (Path test : files) {
                String name = test.getFileName().toString().replace(".java", "");
                unnamed.append(page.contains("| " + name + " |") ? "" : name + " ");
            }
        }
        return unnamed.toString();
    }

    private static void look(String line) {
        Matcher call = CALL.matcher(line);
        Matcher text = TEXT.matcher(line);
        if (line.equals("HeapFile file = new HeapFile();")) {
            file = new HeapFile();
        } else if (text.matches()) {
            Steps.buffer(file, text.group(1));
        } else if (call.matches()) {
            calls++;
            DUE.answers(line, call.group(3), () -> answer(call.group(1), call.group(2)));
        } else {
            DUE.same("a line that is no call", line.isBlank() || line.equals("}") || line.equals("    file.append(sign);"), true);
        }
    }

    private static Object answer(String name, String arguments) {
        String[] texts = arguments.isEmpty() ? new String[0] : arguments.split(", ");
        Object[] values = new Object[texts.length];
        for (int i = 0; i < texts.length; i++) {
            values[i] = texts[i].startsWith("'") ? (int) texts[i].charAt(1) : Integer.parseInt(texts[i]);
        }
        for (Method m : HeapFile.class.getDeclaredMethods()) {
            if (m.getName().equals(name) && m.getParameterCount() == values.length) {
                try {
                    return m.invoke(file, values);
                } catch (ReflectiveOperationException e) {
                    return e.getCause();
                }
            }
        }
        return "no such call";
    }
}
