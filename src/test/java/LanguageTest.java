import java.io.IOException;
import java.lang.reflect.Array;
import java.lang.reflect.Constructor;
import java.lang.reflect.Field;
import java.lang.reflect.Method;
import java.lang.reflect.Modifier;
import java.nio.file.Files;
import java.nio.file.Path;
import java.util.IdentityHashMap;
import java.util.Map;
import java.util.Set;
import java.util.TreeMap;
import java.util.TreeSet;
import java.util.regex.Matcher;
import java.util.regex.Pattern;

/** The face of the class, and what LANGUAGE.md rules out, as far as the text and the class itself show it. */
public final class LanguageTest {
    private static final Due due = new Due();
    private static final Set<String> FACE = Set.of(
            "int herd(int, int, int, int, int)", "int clause(int, int)", "int clash(int, int, boolean)",
            "int rock(int, int)", "int say(int)", "int wipe()", "int fault()", "int judge(int)", "int done()",
            "int behind(int, int)", "int then(int)", "int who(int)", "int bring(int, int, int, int, int)",
            "int drop(int, int)", "int share(int, int)", "long waiting(int, int, int)", "int reads(int, int)",
            "int counted(int, int)", "int forget()", "int went(int)", "int ask(int)", "int turning(int, int)",
            "long drift(int, int, int, int, int, int)", "int year(int, int, int)", "int image(int)",
            "int restore(int)", "int told(int)");
    private static final Map<String, Long> CONSTANTS = Map.of("NONE", -6L, "UNKNOWN", -1L, "OUTSIDE", -2L,
            "STATE", -3L, "FULL", -4L, "NO", -5L, "LOST", -1000000000000000000L);
    /** The head of a method that answers something or nothing (a constructor has no type ahead of its name). */
    private static final Pattern METHOD = Pattern.compile(
            "(?m)^ +(?:(?:public|private|static) )*(?:int|long|boolean|void) (\\w+)\\([^)]*\\) \\{$");

    public static void main(String[] args) throws IOException, ReflectiveOperationException {
        constants();
        methods();
        insideClasses();
        String whole = Files.readString(Path.of("src/main/java/SealStrait.java"));
        text(whole);
        methodsAreShort(whole);
        callsAreNotDeep(bodies(whole));
        room();
        due.end();
    }

    private static void constants() throws ReflectiveOperationException {
        for (Map.Entry<String, Long> constant : CONSTANTS.entrySet()) {
            Field field = SealStrait.class.getField(constant.getKey());
            due.is(constant.getKey(), field.getLong(null), constant.getValue());
            boolean isLong = constant.getKey().equals("LOST");
            due.isTrue("the type of " + constant.getKey(), field.getType() == (isLong ? long.class : int.class));
            due.isTrue(constant.getKey() + " is final", Modifier.isFinal(field.getModifiers()));
        }
        for (Field field : SealStrait.class.getDeclaredFields()) {
            due.isTrue("field " + field.getName() + " is private or of the face",
                    Modifier.isPrivate(field.getModifiers()) || CONSTANTS.containsKey(field.getName()));
        }
    }

    private static String signature(Method method) {
        StringBuilder all = new StringBuilder();
        all.append(method.getReturnType().getName()).append(' ').append(method.getName()).append('(');
        for (Class<?> parameter : method.getParameterTypes()) {
            all.append(all.charAt(all.length() - 1) == '(' ? "" : ", ").append(parameter.getName());
        }
        return all.append(')').toString();
    }

    private static void methods() {
        due.isTrue("the class is public and final", Modifier.isPublic(SealStrait.class.getModifiers())
                && Modifier.isFinal(SealStrait.class.getModifiers()));
        Set<String> found = new TreeSet<>();
        for (Method method : SealStrait.class.getDeclaredMethods()) {
            boolean isPublic = Modifier.isPublic(method.getModifiers());
            if (isPublic) {
                found.add(signature(method));
                due.isTrue(method.getName() + " is of an object", !Modifier.isStatic(method.getModifiers()));
            } else {
                due.isTrue("method " + method.getName() + " is private", Modifier.isPrivate(method.getModifiers()));
                due.isTrue("method " + method.getName() + " has a name of its own", !isOfTheFace(method.getName()));
            }
        }
        due.isTrue("the methods are those of the face: " + found, found.equals(FACE));
        Constructor<?>[] constructors = SealStrait.class.getDeclaredConstructors();
        due.is("constructors", constructors.length, 1);
        due.is("parameters of the constructor", constructors[0].getParameterCount(), 0);
        due.isTrue("the constructor is public", Modifier.isPublic(constructors[0].getModifiers()));
    }

    private static boolean isOfTheFace(String name) {
        return FACE.stream().anyMatch(signature -> signature.contains(" " + name + "("));
    }

    private static void insideClasses() {
        Class<?>[] inside = SealStrait.class.getDeclaredClasses();
        due.isTrue("some twelve classes at the most", inside.length + 1 <= 12);
        for (Class<?> one : inside) {
            due.isTrue(one.getName() + " is static", Modifier.isStatic(one.getModifiers()));
            due.isTrue(one.getName() + " is not public", !Modifier.isPublic(one.getModifiers()));
            int fields = 0;
            for (Field field : one.getDeclaredFields()) {
                boolean isStatic = Modifier.isStatic(field.getModifiers());
                fields += isStatic ? 0 : 1;
                due.isTrue(field + " is final if static", !isStatic || Modifier.isFinal(field.getModifiers()));
            }
            due.isTrue(one.getName() + " has some twenty fields at the most", fields <= 20);
            for (Method method : one.getDeclaredMethods()) {
                due.isTrue(method + " has a name of its own", !isOfTheFace(method.getName()));
                due.isTrue(method + " has seven parameters at the most", method.getParameterCount() <= 7);
            }
        }
    }

    private static String codeOf(String whole) {
        return whole.replaceAll("(?s)/\\*.*?\\*/", "").replaceAll("//[^\n]*", "");
    }

    /** Rule 11, by how far a method's last brace stands from its first line. */
    private static void methodsAreShort(String whole) {
        Matcher head = METHOD.matcher(whole);
        while (head.find()) {
            int lines = (int) whole.substring(head.start(), endOfBody(whole, head.end())).lines().count();
            due.isTrue(head.group(1) + " has " + lines + " lines", lines <= 60);
        }
    }

    private static int endOfBody(String code, int begin) {
        int open = 1;
        int place = begin;
        while (open > 0 && place < code.length()) {
            open += code.charAt(place) == '{' ? 1 : code.charAt(place) == '}' ? -1 : 0;
            place++;
        }
        return place;
    }

    /** By a method's name what stands in it; methods of one name are taken as one, so that no call is left out. */
    private static Map<String, String> bodies(String whole) {
        String code = codeOf(whole);
        Map<String, String> all = new TreeMap<>();
        Matcher head = METHOD.matcher(code);
        while (head.find()) {
            all.merge(head.group(1), code.substring(head.end(), endOfBody(code, head.end())), String::concat);
        }
        return all;
    }

    /** Rules 8 and 11: no method calls itself, over others either, and at most eight stand open at once. */
    private static void callsAreNotDeep(Map<String, String> bodies) {
        due.isTrue("methods are found in the text: " + bodies.size(), bodies.size() >= FACE.size() + 40);
        for (String name : bodies.keySet()) {
            int depth = depthOf(name, bodies, 1);
            due.isTrue(name + " goes " + depth + " calls deep", depth <= 8);
        }
    }

    private static int depthOf(String name, Map<String, String> bodies, int above) {
        if (above > 20) {
            return above;
        }
        int deepest = 0;
        Matcher call = Pattern.compile("\\b(\\w+)\\(").matcher(bodies.get(name));
        while (call.find()) {
            if (bodies.containsKey(call.group(1))) {
                deepest = Math.max(deepest, depthOf(call.group(1), bodies, above + 1));
            }
        }
        return 1 + deepest;
    }

    private static void text(String whole) {
        String code = codeOf(whole);
        String[] ruledOut = {"throw", "try", "catch", "finally", "throws", "synchronized", "assert", "package", "static \\{",
            "->", "::", "instanceof", "System", "Random", "Thread", "Exact", "\\bObject\\b", "\\bHash", "goto",
            "\\bwhile\\b", "\\bString\\b", "\\bdouble\\b", "\\bfloat\\b"};
        for (String word : ruledOut) {
            due.isTrue("no " + word + " in the code", !Pattern.compile(word).matcher(code).find());
        }
        Matcher imports = Pattern.compile("import ([^;]*);").matcher(code);
        while (imports.find()) {
            due.isTrue("import " + imports.group(1), imports.group(1).equals("java.util.Arrays"));
        }
        Matcher library = Pattern.compile("\\b(Arrays|Integer|Long|Math)\\.(\\w+)").matcher(code);
        Set<String> allowed = Set.of("Arrays.fill", "Integer.bitCount", "Math.min", "Math.max");
        while (library.find()) {
            due.isTrue(library.group() + " is of the library that is left", allowed.contains(library.group()));
        }
        for (int i = 0; i < whole.length(); i++) {
            if (whole.charAt(i) > 126) {
                due.isTrue("sign " + i + " is a plain one", false);
            }
        }
    }

    /** One object with both images: few objects, and few fields and elements, so that many fit in one room. */
    private static void room() throws ReflectiveOperationException {
        SealStrait x = new SealStrait();
        x.image(0);
        x.image(1);
        Map<Object, Boolean> seen = new IdentityHashMap<>();
        long parts = count(x, seen, 0);
        due.isTrue("objects: " + seen.size(), seen.size() <= 80);
        due.isTrue("fields and elements: " + parts, parts <= 4000);
    }

    /** Fields and elements of an object and of all that hangs on it. */
    private static long count(Object one, Map<Object, Boolean> seen, int depth) throws ReflectiveOperationException {
        if (one == null || depth > 9 || seen.put(one, true) != null) {
            return 0;
        }
        long parts = 0;
        if (one.getClass().isArray()) {
            parts = Array.getLength(one);
            if (one instanceof Object[] row) {
                for (Object element : row) {
                    parts += count(element, seen, depth + 1);
                }
            }
            return parts;
        }
        for (Field field : one.getClass().getDeclaredFields()) {
            if (!Modifier.isStatic(field.getModifiers())) {
                field.setAccessible(true);
                parts += 1 + (field.getType().isPrimitive() ? 0 : count(field.get(one), seen, depth + 1));
            }
        }
        return parts;
    }
}
