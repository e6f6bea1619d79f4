import java.io.IOException;
import java.lang.reflect.Constructor;
import java.lang.reflect.Field;
import java.lang.reflect.Method;
import java.lang.reflect.Modifier;
import java.nio.file.Files;
import java.nio.file.Path;
import java.util.ArrayList;
import java.util.Arrays;
import java.util.List;
import java.util.regex.Matcher;
import java.util.regex.Pattern;

/** The public face of the document, the rules of LANGUAGE.md that can be seen, and that no call throws. */
public final class FaceTest {
    private static final String[] FACE = {
        "int player(int)", "int meeting(int, int, int, int, boolean)", "int mark(int, int, boolean)",
        "int first(int, int)", "int write(int, int)", "int erase(int)", "int fault(int)", "int number(int, int, int)",
        "int paid(int, int)", "int creep(int, int, int)", "int hiding(int, int, int)", "int foretold(int)",
        "int bestSystem()", "int shape(int, int)", "int wide(int, int)", "int quarrel()", "int span(int, int, int)",
        "long fewest()", "int island(int)", "int rope(int, int, int)", "long bridges()", "int best(int, int, int)",
        "int rounds()", "int ways(int)", "int even(int, int, int, int)", "int looked()",
        "int moves(int, int, int, int)", "int weight(int, int)", "int share(int, int)", "long part(int)",
        "int image(int)", "int from(int)", "int count(int)", "long digest()"};
    private static final String[] FORBIDDEN = {"\\bthrows?\\b", "\\btry\\b", "\\bcatch\\b", "\\bsynchronized\\b",
        "\\bassert\\b", "->", "::", "^package\\b", "Exact\\b", "\\bThread\\b", "\\bnanoTime\\b", "\\bcurrentTimeMillis\\b",
        "\\bRandom\\b", "\\bhashCode\\b", "\\btoString\\b", "\\bprotected\\b", "\\bnew int\\[[^\\]]*\\]\\["};

    private static int wrong = 0;

    private static void fail(String what) {
        wrong++;
        System.out.println(what);
    }

    public static void main(String[] args) throws IOException, ReflectiveOperationException {
        members();
        constants();
        nested();
        source();
        extremes();
        System.out.println(wrong == 0 ? "the face is the document's" : wrong + " faults");
        if (wrong != 0) {
            System.exit(1);
        }
    }

    private static String told(Method method) {
        List<String> types = new ArrayList<>();
        for (Class<?> type : method.getParameterTypes()) {
            types.add(type.getName());
        }
        return method.getReturnType().getName() + " " + method.getName() + "(" + String.join(", ", types) + ")";
    }

    private static void members() {
        List<String> face = new ArrayList<>(Arrays.asList(FACE));
        List<String> names = new ArrayList<>();
        for (String method : FACE) {
            names.add(method.replaceAll("^\\w+ |\\(.*$", ""));
        }
        for (Method method : RopeRanks.class.getDeclaredMethods()) {
            if (Modifier.isPublic(method.getModifiers())) {
                if (!face.remove(told(method)) || Modifier.isStatic(method.getModifiers())) {
                    fail("not of the face: " + method);
                }
            } else if (!Modifier.isPrivate(method.getModifiers())) {
                fail("neither public nor private: " + method);
            } else if (names.contains(method.getName())) {
                fail("a private method with a public one's name: " + method);
            }
        }
        for (String missing : face) {
            fail("missing: " + missing);
        }
        Constructor<?>[] constructors = RopeRanks.class.getDeclaredConstructors();
        if (constructors.length != 1 || constructors[0].getParameterCount() != 0
            || !Modifier.isPublic(constructors[0].getModifiers())) {
            fail("the constructor is not the document's");
        }
        if (!Modifier.isFinal(RopeRanks.class.getModifiers()) || !Modifier.isPublic(RopeRanks.class.getModifiers())) {
            fail("the class is not public and final");
        }
    }

    private static void constants() throws ReflectiveOperationException {
        String[] names = {"NONE", "BAD", "NO", "FULL"};
        for (int i = 0; i < names.length; i++) {
            Field field = RopeRanks.class.getDeclaredField(names[i]);
            if (field.getModifiers() != (Modifier.PUBLIC | Modifier.STATIC | Modifier.FINAL) || field.getInt(null) != -1 - i) {
                fail("not as told: " + field);
            }
        }
        for (Field field : RopeRanks.class.getDeclaredFields()) {
            boolean told = Arrays.asList(names).contains(field.getName());
            if (!told && !Modifier.isPrivate(field.getModifiers())) {
                fail("not of the face: " + field);
            }
        }
    }

    private static void nested() {
        if (RopeRanks.class.getDeclaredClasses().length > 12) {
            fail("more than twelve classes");
        }
        for (Class<?> type : RopeRanks.class.getDeclaredClasses()) {
            if (!Modifier.isStatic(type.getModifiers()) || Modifier.isPublic(type.getModifiers())) {
                fail("a class inside is not static and private: " + type);
            }
            int fields = 0;
            for (Field field : type.getDeclaredFields()) {
                boolean isStatic = Modifier.isStatic(field.getModifiers());
                fields += isStatic ? 0 : 1;
                if (isStatic && !Modifier.isFinal(field.getModifiers())) {
                    fail("static and not final: " + field);
                }
            }
            if (fields > 20) {
                fail("more than twenty fields: " + type);
            }
            for (Method method : type.getDeclaredMethods()) {
                if (method.getParameterCount() > 7) {
                    fail("more than seven parameters: " + method);
                }
                if (Modifier.isPrivate(method.getModifiers()) && isOfTheFace(method.getName())) {
                    fail("a private method with a public one's name: " + method);
                }
            }
        }
    }

    private static boolean isOfTheFace(String name) {
        for (String method : FACE) {
            if (method.contains(" " + name + "(")) {
                return true;
            }
        }
        return false;
    }

    private static void source() throws IOException {
        String source = Files.readString(Path.of("src/main/java/RopeRanks.java"));
        String code = source.replaceAll("(?s)/\\*.*?\\*/", "").replaceAll("//.*", "");
        for (String word : FORBIDDEN) {
            Matcher matcher = Pattern.compile(word, Pattern.MULTILINE).matcher(code);
            if (matcher.find()) {
                fail("against LANGUAGE.md: " + matcher.group());
            }
        }
        for (char c : source.toCharArray()) {
            if (c > 127) {
                fail("a sign above 127 in the source");
                break;
            }
        }
        Matcher imports = Pattern.compile("^import (.*);", Pattern.MULTILINE).matcher(code);
        while (imports.find()) {
            if (!List.of("java.util.Arrays", "java.util.ArrayList", "java.util.List").contains(imports.group(1))) {
                fail("against LANGUAGE.md: " + imports.group());
            }
        }
    }

    /** Every call with every mix of far and near arguments, on an empty object and on a full one: none may throw. */
    private static void extremes() throws ReflectiveOperationException {
        int[] values = {Integer.MIN_VALUE, -2, -1, 0, 1, 2, 9, 60, 127, Integer.MAX_VALUE};
        for (int state = 0; state < 3; state++) {
            RopeRanks x = new RopeRanks();
            fill(x, state);
            for (Method method : RopeRanks.class.getDeclaredMethods()) {
                if (Modifier.isPublic(method.getModifiers())) {
                    callAll(x, method, values);
                }
            }
        }
    }

    private static void fill(RopeRanks x, int state) {
        for (int p = 0; p < 10 && state > 0; p++) {
            x.player(p);
        }
        for (int i = 0; i < 60 && state > 1; i++) {
            x.meeting(i, i % 10, (i * 3 + 1) % 10, i % 3, i % 7 == 0);
        }
        for (int i = 0; i < 50 && state > 1; i++) {
            x.write(0, "!-(".charAt(i % 3));
            x.write(1, "x*/o-".charAt(i % 5));
            x.write(2, i % 2 == 0 ? '-' : i == 49 ? 'x' : '!');
        }
    }

    private static void callAll(RopeRanks x, Method method, int[] values) throws ReflectiveOperationException {
        Class<?>[] types = method.getParameterTypes();
        int mixes = 1;
        for (int i = 0; i < types.length; i++) {
            mixes *= values.length;
        }
        Object[] arguments = new Object[types.length];
        for (int mix = 0; mix < mixes && mix < 20000; mix++) {
            int rest = mix;
            for (int i = 0; i < types.length; i++) {
                int value = values[rest % values.length];
                arguments[i] = types[i] == boolean.class ? (Object) (value % 2 == 0) : (Object) value;
                rest /= values.length;
            }
            method.invoke(x, arguments);
        }
    }
}
