import java.io.IOException;
import java.lang.reflect.Constructor;
import java.lang.reflect.Field;
import java.lang.reflect.Method;
import java.lang.reflect.Modifier;
import java.nio.file.Files;
import java.nio.file.Path;
import java.util.ArrayList;
import java.util.List;
import java.util.Set;
import java.util.TreeSet;
import java.util.regex.Matcher;
import java.util.regex.Pattern;

/** The public face of the document, and those rules of LANGUAGE.md that a test can see. */
public final class FaceTest {
    private static final String[] FACE = {
        "int prime(int)", "int size(int)", "int modulus(int)", "int plus(int,int,int)",
        "int times(int,int,int)", "int over(int,int)", "int raise(int,int,int)",
        "int sign(int,int)", "int turns(int,int)", "int trace(int,int)",
        "int forms(int,int,int,int)", "int curve(int,int,int)", "int knot()",
        "int about(int,int)", "int value(int,int,int)", "int count(int,int)",
        "int beyond(int,int)", "int share(int,int)", "long further(int,int)", "int whole(int)",
        "int bound(int)", "int surface(int,int,int)", "int best(int,int,int)",
        "int isClass(int,int,int)", "int classes(int)", "int classAt(int,int,int)",
        "int add(int,int,int)", "int minus(int,int)", "int order(int,int)", "int told(int)",
        "long traced()"};
    private static final String[] WORDS = {"throw", "throws", "try", "catch", "finally",
        "synchronized", "assert", "protected", "System", "Thread", "Random", "Object"};

    private FaceTest() {
    }

    public static void main(String[] args) throws IOException {
        face();
        nested();
        source(Files.readString(Path.of("src/main/java/FieldCounts.java")));
        Checks.finish();
    }

    private static void face() {
        Class<?> type = FieldCounts.class;
        Checks.holds("public and final", type.getModifiers() == (Modifier.PUBLIC | Modifier.FINAL));
        Checks.holds("of no other class", type.getSuperclass() == Object.class);
        Checks.due("interfaces", type.getInterfaces().length, 0);
        Set<String> found = new TreeSet<>();
        for (Method method : type.getDeclaredMethods()) {
            if (Modifier.isPrivate(method.getModifiers())) {
                continue;
            }
            Checks.due("throws nothing: " + method, method.getExceptionTypes().length, 0);
            Checks.holds("public: " + method, method.getModifiers() == Modifier.PUBLIC);
            found.add(signature(method));
        }
        Checks.holds("the methods " + found, found.equals(new TreeSet<>(List.of(FACE))));
        Set<String> constants = new TreeSet<>();
        for (Field field : type.getDeclaredFields()) {
            if (!Modifier.isPrivate(field.getModifiers())) {
                constants.add(field.getName());
                int open = Modifier.PUBLIC | Modifier.STATIC | Modifier.FINAL;
                Checks.due("a constant: " + field, field.getModifiers(), open);
                Checks.holds("an int: " + field, field.getType() == int.class);
            }
        }
        Set<String> due = new TreeSet<>(List.of("BAD", "STATE", "FULL", "NONE", "NO"));
        Checks.holds("the constants " + constants, constants.equals(due));
        Constructor<?>[] constructors = type.getDeclaredConstructors();
        Checks.due("constructors", constructors.length, 1);
        Checks.due("its parameters", constructors[0].getParameterCount(), 0);
        Checks.due("it is public", constructors[0].getModifiers(), Modifier.PUBLIC);
    }

    private static String signature(Method method) {
        List<String> types = new ArrayList<>();
        for (Class<?> type : method.getParameterTypes()) {
            types.add(type.getName());
        }
        return method.getReturnType() + " " + method.getName() + "(" + String.join(",", types) + ")";
    }

    private static void nested() {
        Set<String> names = new TreeSet<>();
        for (String signature : FACE) {
            names.add(signature.substring(signature.indexOf(' ') + 1, signature.indexOf('(')));
        }
        List<Class<?>> types = new ArrayList<>(List.of(FieldCounts.class.getDeclaredClasses()));
        Checks.holds("twelve classes at most", types.size() < 12);
        types.add(FieldCounts.class);
        for (Class<?> type : types) {
            boolean outer = type == FieldCounts.class;
            Checks.holds("static: " + type, outer || Modifier.isStatic(type.getModifiers()));
            int fields = 0;
            for (Field field : type.getDeclaredFields()) {
                boolean still = Modifier.isStatic(field.getModifiers());
                Checks.holds("final: " + field, !still || Modifier.isFinal(field.getModifiers()));
                fields += still ? 0 : 1;
            }
            Checks.holds("twenty fields at most: " + type, fields <= 20);
            for (Method method : type.getDeclaredMethods()) {
                Checks.holds("seven parameters: " + method, method.getParameterCount() <= 7);
                boolean open = outer && Modifier.isPublic(method.getModifiers());
                Checks.holds("no such name: " + method, open || !names.contains(method.getName()));
            }
        }
    }

    private static void source(String text) {
        String code = text.replaceAll("(?s)/\\*.*?\\*/", "").replaceAll("//[^\n]*", "");
        for (String word : WORDS) {
            Checks.holds("no " + word, !Pattern.compile("\\b" + word + "\\b").matcher(code).find());
        }
        for (String sign : new String[] {"->", "::", "Exact", "@", "\"", "[][]"}) {
            Checks.holds("no " + sign, !code.contains(sign));
        }
        Matcher imports = Pattern.compile("\\bimport ([^;]*);").matcher(code);
        while (imports.find()) {
            Checks.holds(imports.group(1), imports.group(1).equals("java.util.Arrays"));
        }
        Matcher calls = Pattern.compile("\\b([A-Z][a-z]\\w*)\\.(\\w+)").matcher(code);
        Set<String> allowed = Set.of("Math.max", "Math.min", "Arrays.fill");
        while (calls.find()) {
            Checks.holds("the library: " + calls.group(), allowed.contains(calls.group()));
        }
        // Rows and objects are made once, by constructors: no call of the face needs a new one.
        Matcher made = Pattern.compile("(?m)^.*\\bnew\\b.*$").matcher(code);
        int found = 0;
        while (made.find()) {
            found++;
        }
        Checks.due("lines that make objects", found, 12);
    }
}
