import java.io.IOException;
import java.lang.reflect.Constructor;
import java.lang.reflect.Field;
import java.lang.reflect.Method;
import java.lang.reflect.Modifier;
import java.nio.file.Files;
import java.nio.file.Path;
import java.util.Arrays;
import java.util.Set;
import java.util.TreeSet;

/** The face of the class is that of the document, and its text keeps to what LANGUAGE.md leaves. */
public final class FaceTest {
    private static final Checks C = new Checks();
    private static final String[] CALLS = {
        "int day(int)", "int body(int, int, int)", "int becomes(int, int, int)", "int measure(int, int, int, int)",
        "int known(int, int, int, int)", "int told(int, int)", "int size(int, int, int, int, int, int, int)",
        "int fits(int, int, int)", "int sized(int, int, int, int)", "int chosen(int, int, int)",
        "int feed(long)", "int end(int)", "int text()", "int fault()", "int due(int, int, int)",
        "int why(int, int, int)", "int rule(int, int, int)",
        "int store()", "int road(int, int, int)", "int piece(int, int, int, int)", "int pieceOf(int, int)",
        "int issue(int, int)", "int back(int, int)", "int lost(int)", "int move(int, int)", "int fail(int)",
        "int stock(int, int)",
        "int parade(int, int, int)", "int order(int, int)", "int ordered(int, int, int, int)", "long lot(int, int)",
        "int worst()",
        "int sheet(int, int, int)", "int lay(int, int, int)", "int scan(int, int, int)", "int count(int)"};

    public static void main(String[] args) throws IOException {
        calls();
        constants();
        nothingElse();
        insideClasses();
        language();
        C.finish();
    }

    private static void same(String what, Set<String> got, Set<String> want) {
        C.due(what + " " + got + ", due are " + want, got.equals(want) ? 1 : 0, 1);
    }

    private static String signature(Method m) {
        StringBuilder text = new StringBuilder();
        for (Class<?> type : m.getParameterTypes()) {
            text.append(text.length() == 0 ? "" : ", ").append(type.getSimpleName());
        }
        return m.getReturnType().getSimpleName() + " " + m.getName() + "(" + text + ")";
    }

    private static void calls() {
        C.test("the face: its calls");
        Set<String> got = new TreeSet<>();
        for (Method m : ClothForce.class.getDeclaredMethods()) {
            if (!Modifier.isPrivate(m.getModifiers())) {
                C.due(m + " is a public method of the object", Modifier.isPublic(m.getModifiers())
                    && !Modifier.isStatic(m.getModifiers()) && m.getExceptionTypes().length == 0 ? 1 : 0, 1);
                got.add(signature(m));
            }
        }
        same("calls", got, new TreeSet<>(Arrays.asList(CALLS)));
    }

    private static void constants() {
        C.test("the face: its constants");
        C.due("BAD", ClothForce.BAD, -1);
        C.due("STATE", ClothForce.STATE, -2);
        C.due("FULL", ClothForce.FULL, -3);
        C.due("NONE", ClothForce.NONE, -4);
        Set<String> got = new TreeSet<>();
        for (Field f : ClothForce.class.getDeclaredFields()) {
            if (!Modifier.isPrivate(f.getModifiers())) {
                got.add(Modifier.toString(f.getModifiers()) + " " + f.getType() + " " + f.getName());
            } else if (Modifier.isStatic(f.getModifiers())) {
                C.due(f + " is final", Modifier.isFinal(f.getModifiers()) ? 1 : 0, 1);
            }
        }
        String head = "public static final int ";
        same("constants", got, new TreeSet<>(Arrays.asList(head + "BAD", head + "STATE", head + "FULL", head + "NONE")));
    }

    private static void nothingElse() {
        C.test("the face: one constructor, a final class that extends nothing");
        Constructor<?>[] all = ClothForce.class.getDeclaredConstructors();
        C.due("constructors", all.length, 1);
        C.due("it is public, without numbers", all.length > 0 && Modifier.isPublic(all[0].getModifiers())
            && all[0].getParameterCount() == 0 ? 1 : 0, 1);
        C.due("public and final", ClothForce.class.getModifiers(), Modifier.PUBLIC | Modifier.FINAL);
        C.due("extends Object", ClothForce.class.getSuperclass() == Object.class ? 1 : 0, 1);
        C.due("interfaces", ClothForce.class.getInterfaces().length, 0);
        C.due("without a package", ClothForce.class.getPackageName().length(), 0);
    }

    private static void insideClasses() {
        C.test("LANGUAGE.md 1, 2, 5, 11: the classes inside");
        Set<String> names = new TreeSet<>();
        for (String call : CALLS) {
            names.add(call.substring(call.indexOf(' ') + 1, call.indexOf('(')));
        }
        Class<?>[] inside = ClothForce.class.getDeclaredClasses();
        C.due("some twelve classes, not " + (inside.length + 1), inside.length + 1 <= 14 ? 1 : 0, 1);
        for (Class<?> one : inside) {
            int is = one.getModifiers();
            C.due(one + " is static, not public", Modifier.isStatic(is) && !Modifier.isPublic(is) && !Modifier.isProtected(is) ? 1 : 0, 1);
        }
        Class<?>[] all = Arrays.copyOf(inside, inside.length + 1);
        all[inside.length] = ClothForce.class;
        for (Class<?> one : all) {
            for (Method m : one.getDeclaredMethods()) {
                boolean hides = Modifier.isPrivate(m.getModifiers()) && names.contains(m.getName());
                C.due(m + " has a name of its own", hides ? 1 : 0, 0);
                C.due(m + " takes seven numbers at most", m.getParameterCount() <= 7 ? 1 : 0, 1);
            }
            int fields = 0;
            for (Field f : one.getDeclaredFields()) {
                boolean isStatic = Modifier.isStatic(f.getModifiers());
                C.due(f + " is no static state", isStatic && !Modifier.isFinal(f.getModifiers()) ? 1 : 0, 0);
                fields += isStatic ? 0 : 1;
            }
            C.due(one + " has some twenty fields, not " + fields, fields <= 20 ? 1 : 0, 1);
        }
    }

    private static void language() throws IOException {
        C.test("LANGUAGE.md 4, 6: words that the text must not hold");
        String text = Files.readString(Path.of("src/main/java/ClothForce.java"));
        String code = text.replaceAll("(?s)/\\*.*?\\*/", " ").replaceAll("//[^\n]*", " ").replaceAll("\"[^\"\n]*\"", "\"\"");
        String[] words = {"throw", "throws", "try", "catch", "finally", "synchronized", "assert", "hashCode", "package",
            "protected", "System.out", "volatile", "transient", "native"};
        for (String word : words) {
            boolean holds = code.matches("(?s).*(?<![A-Za-z])" + java.util.regex.Pattern.quote(word) + "(?![A-Za-z]).*");
            C.due("the word " + word, holds ? 1 : 0, 0);
        }
        for (String sign : new String[] {"::", "\" +", "+ \"", "Exact("}) {
            C.due("the sign " + sign, code.contains(sign) ? 1 : 0, 0);
        }
        C.due("signs are 1 to 127", text.chars().allMatch(c -> c > 0 && c < 128) ? 1 : 0, 1);
        for (String line : code.split("\n")) {
            boolean other = line.startsWith("import ") && !line.matches("import java\\.util\\.(Arrays|ArrayList|List|Iterator);\\s*");
            C.due("'" + line + "' is of the library that LANGUAGE.md lists", other ? 1 : 0, 0);
        }
    }
}
