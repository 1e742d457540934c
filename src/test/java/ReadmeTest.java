import java.io.File;
import java.lang.reflect.Method;
import java.lang.reflect.Modifier;
import java.nio.file.Files;
import java.nio.file.Path;
import java.util.Map;
import java.util.Set;
import java.util.TreeMap;
import java.util.TreeSet;
import java.util.regex.Matcher;
import java.util.regex.Pattern;

/** README.md: the calls of its examples answer what stands beside them, and it names every call and every test. */
public final class ReadmeTest {
    private static final Pattern BLOCK = Pattern.compile("```java\n(.*?)```", Pattern.DOTALL);
    private static final Pattern CALL = Pattern.compile("x\\.(\\w+)\\(([^)]*)\\);");
    private static final Pattern ANSWER = Pattern.compile("// (-?\\d+)(:.*)?$");

    private final Map<String, Method> face = new TreeMap<>();
    private final Set<String> called = new TreeSet<>();
    private final FlungFingers x = new FlungFingers();
    private int calls;
    private int wrong;

    private ReadmeTest() {
        for (Method method : FlungFingers.class.getDeclaredMethods()) {
            if (Modifier.isPublic(method.getModifiers())) {
                face.put(method.getName(), method);
            }
        }
    }

    private void due(boolean holds, String what) {
        if (!holds) {
            wrong++;
            System.out.println("not so: " + what);
        }
    }

    private long answer(String name, String numbers) throws Exception {
        Method method = face.get(name);
        String[] words = numbers.isEmpty() ? new String[0] : numbers.split(", ");
        Object[] all = new Object[words.length];
        for (int i = 0; i < words.length; i++) {
            boolean isTruth = method.getParameterTypes()[i] == boolean.class;
            all[i] = isTruth ? (Object) Boolean.valueOf(words[i]) : (Object) Integer.valueOf(words[i]);
        }
        calls++;
        called.add(name);
        return ((Number) method.invoke(x, all)).longValue();
    }

    /** The number behind a line is what its last call answers. */
    private void line(String text) throws Exception {
        Matcher call = CALL.matcher(text);
        boolean some = false;
        long got = 0;
        while (call.find()) {
            due(face.containsKey(call.group(1)), "there is a call " + call.group(1));
            got = face.containsKey(call.group(1)) ? answer(call.group(1), call.group(2)) : 0;
            some = true;
        }
        Matcher want = ANSWER.matcher(text);
        if (some && want.find()) {
            due(got == Long.parseLong(want.group(1)), text + " answered " + got);
        } else {
            due(!text.contains("//"), "an answer can be read from " + text);
        }
    }

    public static void main(String[] args) throws Exception {
        String readme = Files.readString(Path.of("README.md"));
        ReadmeTest test = new ReadmeTest();
        Matcher block = BLOCK.matcher(readme);
        while (block.find()) {
            for (String text : block.group(1).split("\n")) {
                test.line(text);
            }
        }
        test.due(test.called.equals(test.face.keySet()), "every call has an example: " + test.called);
        test.due(test.calls <= 512, "an object has 512 calls at most");
        String[] tests = new File("src/test/java").list((folder, name) -> name.endsWith("Test.java"));
        test.due(tests != null && tests.length > 0, "there are tests");
        for (String name : tests == null ? new String[0] : tests) {
            test.due(readme.contains(name), "README.md names " + name);
        }
        System.out.println(test.wrong == 0 ? test.calls + " calls of README.md are as it says" : test.wrong + " things are not so");
        if (test.wrong != 0) {
            System.exit(1);
        }
    }
}
