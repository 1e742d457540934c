import java.lang.reflect.Constructor;
import java.lang.reflect.Field;
import java.lang.reflect.Member;
import java.lang.reflect.Method;
import java.lang.reflect.Modifier;
import java.nio.file.Files;
import java.nio.file.Path;
import java.util.ArrayList;
import java.util.Arrays;
import java.util.List;
import java.util.Set;
import java.util.TreeSet;
import java.util.regex.Matcher;
import java.util.regex.Pattern;

/** The public face of the document, and those rules of LANGUAGE.md that can be seen from outside. */
public final class LanguageTest {
    private static final String FACE = """
        int rule(int, int, int, int)
        int way(int, int)
        int pay(int, int)
        int value()
        int mix(int, int)
        int brings(int, int)
        int steps()
        int limbs(int)
        int limb(int, int)
        int sign()
        long millionths()
        int chance(int, int)
        int given(int)
        int flung(int, int)
        int forget(int)
        int odds(int)
        int comes(int, int, int, int)
        int tried(int)
        int tail(int, int, int, int)
        int told(int)
        int toldAt(int, int)
        int foreseen(int)
        int foreseenAt(int, int)
        int answer(int, int)
        int answers(int, int, int)
        int slate(int)
        int round(int, int)
        int dispute(int, int, boolean)
        long fills()
        int had(int, int, boolean)
        int wrong()
        int heard(int, int, int)
        int beat(int)
        int lates(int, int)
        int late(int)
        int silence()
        int played(int, int, int, int)
        int left(int, int)
        int next(int, int)
        int has(int)
        int can(int)
        int how(int)
        int count(int)
        long digest()
        """;
    private static int wrong;

    private static void due(boolean holds, String what) {
        if (!holds) {
            wrong++;
            System.out.println("not so: " + what);
        }
    }

    private static String shape(Method method) {
        List<String> types = new ArrayList<>();
        for (Class<?> type : method.getParameterTypes()) {
            types.add(type.getSimpleName());
        }
        return method.getReturnType().getSimpleName() + " " + method.getName() + "(" + String.join(", ", types) + ")";
    }

    private static void face() throws Exception {
        Class<?> face = FlungFingers.class;
        Set<String> shapes = new TreeSet<>();
        for (Method method : face.getDeclaredMethods()) {
            if (Modifier.isPublic(method.getModifiers())) {
                shapes.add(shape(method));
                due(!Modifier.isStatic(method.getModifiers()), method + " is not static");
            } else {
                due(Modifier.isPrivate(method.getModifiers()), method + " is private");
            }
        }
        due(shapes.equals(new TreeSet<>(Arrays.asList(FACE.trim().split("\n")))), "the methods are those of the document");
        due(Modifier.isFinal(face.getModifiers()) && Modifier.isPublic(face.getModifiers()), "the class is public and final");
        Constructor<?>[] makers = face.getDeclaredConstructors();
        due(makers.length == 1 && makers[0].getParameterCount() == 0, "one constructor");
        for (Field field : face.getDeclaredFields()) {
            boolean named = Set.of("NONE", "BAD", "NO", "FULL").contains(field.getName());
            due(named == Modifier.isPublic(field.getModifiers()), field + " is seen or not as it should be");
            due(named || Modifier.isPrivate(field.getModifiers()), field + " is private");
        }
        due(FlungFingers.NONE == -1 && FlungFingers.BAD == -2 && FlungFingers.NO == -3 && FlungFingers.FULL == -4, "the constants");
    }

    private static void inside() {
        Set<String> names = new TreeSet<>();
        for (Method method : FlungFingers.class.getDeclaredMethods()) {
            if (Modifier.isPublic(method.getModifiers())) {
                names.add(method.getName());
            }
        }
        List<Class<?>> all = new ArrayList<>(List.of(FlungFingers.class.getDeclaredClasses()));
        due(all.size() + 1 <= 12, "twelve classes at most");
        for (Class<?> one : all) {
            due(Modifier.isStatic(one.getModifiers()) && Modifier.isPrivate(one.getModifiers()), one + " is static and private");
            for (Method method : one.getDeclaredMethods()) {
                due(!names.contains(method.getName()), method + " does not bear the name of a public one");
            }
        }
        all.add(FlungFingers.class);
        for (Class<?> one : all) {
            int fields = 0;
            for (Field field : one.getDeclaredFields()) {
                boolean isStatic = Modifier.isStatic(field.getModifiers());
                fields += isStatic ? 0 : 1;
                due(!isStatic || Modifier.isFinal(field.getModifiers()), field + " is final");
            }
            due(fields <= 20, one + " has twenty fields at most");
            for (Method method : one.getDeclaredMethods()) {
                due(method.getParameterCount() <= 7, ((Member) method) + " takes seven at most");
            }
        }
    }

    private static void source() throws Exception {
        String text = Files.readString(Path.of("src/main/java/FlungFingers.java"));
        due(text.chars().allMatch(c -> c < 128), "plain signs");
        String code = text.replaceAll("(?s)/\\*.*?\\*/", "").replaceAll("//[^\n]*", "");
        for (String word : "throw try catch finally synchronized assert package instanceof double float System.out new_String".split(" ")) {
            due(!Pattern.compile("\\b" + word.replace('_', ' ').replace(".", "\\.") + "\\b").matcher(code).find(), "no " + word);
        }
        for (String sign : new String[] {"->", "::", "Exact", "while (true)", "for (;;)"}) {
            due(!code.contains(sign), "no " + sign);
        }
        Matcher imports = Pattern.compile("import ([^;]*);").matcher(code);
        while (imports.find()) {
            due(imports.group(1).equals("java.util.Arrays"), "no import of " + imports.group(1));
        }
        int from = 0;
        String[] lines = text.split("\n");
        for (int i = 0; i < lines.length; i++) {
            if (lines[i].matches("( {4}| {8})[a-zA-Z].*\\) \\{")) {
                from = i;
            }
            if (lines[i].matches(" {4}\\}| {8}\\}") && from > 0) {
                due(i - from <= 60, "a short method at line " + (from + 1));
                from = 0;
            }
        }
    }

    public static void main(String[] args) throws Exception {
        face();
        inside();
        source();
        System.out.println(wrong == 0 ? "the language is kept to" : wrong + " things are not so");
        if (wrong != 0) {
            System.exit(1);
        }
    }
}
