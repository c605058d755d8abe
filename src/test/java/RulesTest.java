import java.lang.reflect.Constructor;
import java.lang.reflect.Field;
import java.lang.reflect.Method;
import java.lang.reflect.Modifier;
import java.nio.charset.StandardCharsets;
import java.nio.file.Files;
import java.nio.file.Path;
import java.util.ArrayList;
import java.util.HashSet;
import java.util.List;
import java.util.Set;
import java.util.TreeSet;
import java.util.regex.Matcher;
import java.util.regex.Pattern;

/** What of ../shared/LANGUAGE.md can be seen from the class and from its source. Started in the project's root. */
public final class RulesTest {
    private static final String[] FACE = {"int parish(int)", "int pull(int,int,int)", "int road(int,int,int)",
        "int toll(int,int)", "int cart(int,int)", "int good(int,int,int)", "int hang(int,int)", "int person(int,int)",
        "int of(int,int)", "int told(int,int)", "int weighs(int,int)", "int type(int)", "int land()", "int count(int)",
        "int weeks(int)", "int way(int,int,int,int,int)", "int net(int,int,int)", "int market(int,int)",
        "int trade(int,int,int)", "int scales(int,int)", "int take(int,int)", "int councils(int,int,int,int)",
        "int league(int,int)", "long upper(int,int,int)", "long lower(int,int,int)", "int change(int,int,int)",
        "int well(int,int)", "int image()", "int restore()", "int beam(int,int,int,int,int,int,int)",
        "int book(int,int,int,int,int,int,int,int)", "int mills(int,int,int,int)", "int film(int,int,int)",
        "int sheet(int,int,int)", "int drop(int)", "int item(int,int,int,long)", "int copy(int,int,int,int,int)"};
    private static final String[] CONSTANTS = {"BAD", "NOT", "FULL", "NONE", "NULL", "CAST", "INDEX", "SIZE"};
    private static final String[] FORBIDDEN = {"\\bthrow\\b", "\\btry\\b", "\\bcatch\\b", "\\bfinally\\b", "->", "::",
        "\\bassert\\b", "\\bsynchronized\\b", "\\bSystem\\.(?!arraycopy\\b)", "\\bthrows\\b", "\\bvar\\b",
        "Math\\.\\w+Exact\\b", "\\bstatic \\{", "\\bextends\\b", "\\bObject\\b", "\\bdouble\\b", "\\bfloat\\b"};
    private static int wrong = 0;

    private RulesTest() {
    }

    public static void main(String[] args) throws Exception {
        face();
        nestedClasses();
        Path path = Path.of("src/main/java/ParishPull.java");
        String source = Files.readString(path, StandardCharsets.ISO_8859_1);
        check(source.chars().allMatch(c -> c == '\n' || c >= 32 && c < 127), "3: a sign outside 32 .. 126");
        String code = source.replaceAll("(?s)/\\*.*?\\*/", "").replaceAll("//[^\n]*", "");
        for (String pattern : FORBIDDEN) {
            Matcher matcher = Pattern.compile(pattern).matcher(code);
            check(!matcher.find(), "what the rules leave out: " + pattern);
        }
        imports(code);
        newOnlyInFields(code);
        methodLengths(code);
        System.out.println(wrong == 0 ? "rules: kept" : "rules: " + wrong + " broken");
        System.exit(wrong == 0 ? 0 : 1);
    }

    private static void check(boolean kept, String rule) {
        if (!kept) {
            wrong++;
            System.out.println("broken: " + rule);
        }
    }

    private static void face() throws ReflectiveOperationException {
        Class<?> face = ParishPull.class;
        check(Modifier.isPublic(face.getModifiers()) && Modifier.isFinal(face.getModifiers()), "1: public and final");
        Set<String> due = new TreeSet<>(List.of(FACE));
        Set<String> seen = new TreeSet<>();
        Set<String> names = new HashSet<>();
        for (Method method : face.getDeclaredMethods()) {
            if (Modifier.isPublic(method.getModifiers())) {
                seen.add(told(method));
                names.add(method.getName());
            } else {
                check(Modifier.isPrivate(method.getModifiers()), "1: not private: " + method);
            }
        }
        check(seen.equals(due), "1: the face is " + seen);
        for (Method method : face.getDeclaredMethods()) {
            check(Modifier.isPublic(method.getModifiers()) || !names.contains(method.getName()),
                    "1: a private method with a public one's name: " + method);
        }
        for (Constructor<?> constructor : face.getDeclaredConstructors()) {
            check(constructor.getParameterCount() == 0 && Modifier.isPublic(constructor.getModifiers()),
                    "1: the constructor");
        }
        Set<String> constants = new TreeSet<>();
        for (Field field : face.getDeclaredFields()) {
            if (Modifier.isPublic(field.getModifiers())) {
                constants.add(field.getName());
                check(field.getType() == int.class && Modifier.isStatic(field.getModifiers()), "1: " + field);
            } else {
                check(Modifier.isPrivate(field.getModifiers()), "1: not private: " + field);
            }
            check(!Modifier.isStatic(field.getModifiers()) || Modifier.isFinal(field.getModifiers()), "5: " + field);
        }
        check(constants.equals(new TreeSet<>(List.of(CONSTANTS))), "1: the constants are " + constants);
    }

    private static String told(Method method) {
        List<String> types = new ArrayList<>();
        for (Class<?> type : method.getParameterTypes()) {
            types.add(type.getName());
        }
        return method.getReturnType().getName() + " " + method.getName() + "(" + String.join(",", types) + ")";
    }

    private static void nestedClasses() {
        Class<?>[] inside = ParishPull.class.getDeclaredClasses();
        check(inside.length <= 12, "11: classes");
        Set<String> faceNames = new HashSet<>();
        for (String call : FACE) {
            faceNames.add(call.substring(call.indexOf(' ') + 1, call.indexOf('(')));
        }
        for (Class<?> nested : inside) {
            check(Modifier.isStatic(nested.getModifiers()), "1: not static: " + nested);
            int fields = 0;
            for (Field field : nested.getDeclaredFields()) {
                boolean constant = Modifier.isStatic(field.getModifiers());
                fields += constant ? 0 : 1;
                check(!constant || Modifier.isFinal(field.getModifiers()), "5: " + field);
            }
            check(fields <= 20, "11: fields of " + nested);
            for (Method method : nested.getDeclaredMethods()) {
                check(method.getParameterCount() <= 7, "11: parameters of " + method);
                check(!faceNames.contains(method.getName()), "1: a name of the face: " + method);
            }
        }
    }

    private static void imports(String code) {
        Matcher matcher = Pattern.compile("import ([\\w.]+);").matcher(code);
        while (matcher.find()) {
            check(matcher.group(1).equals("java.util.Arrays"), "4: import " + matcher.group(1));
        }
    }

    /** Rows are made once for each object of the class, so no call adds to the room of a run. */
    private static void newOnlyInFields(String code) {
        for (String line : code.split("\n")) {
            if (Pattern.compile("\\bnew\\b").matcher(line).find()) {
                check(line.matches("\\s+(private )?final [\\w\\[\\]]+ \\w+ = new .*;"), "12: made by a call: " + line);
            }
        }
    }

    private static void methodLengths(String code) {
        int length = 0;
        for (String line : code.split("\n")) {
            if (line.matches(" {4}( {4})?[\\w\\[\\] ]+\\(.*(\\{|,)?") && !line.contains("=")) {
                length = 0;
            }
            length++;
            check(length <= 60 || line.isBlank() || !line.matches(" {8,}.*return.*"), "11: a long method at " + line);
        }
    }
}
