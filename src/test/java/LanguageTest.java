import java.io.IOException;
import java.lang.reflect.Constructor;
import java.lang.reflect.Field;
import java.lang.reflect.Method;
import java.lang.reflect.Modifier;
import java.nio.file.Files;
import java.nio.file.Path;
import java.util.Arrays;
import java.util.List;
import java.util.Set;
import java.util.TreeSet;
import java.util.regex.Matcher;
import java.util.regex.Pattern;

/** The public face of the document, and those rules of LANGUAGE.md that can be read off class and source. */
public final class LanguageTest {
    private static final String[] FACE = {"type(int)", "clear()", "tells()", "claims(int,int)", "fills(int,int)",
        "gaps(int)", "takes(int,int)", "calls(int)", "undo()", "event(int,int)", "taker(int,int)", "maker(int,int)",
        "blamed()", "steps()", "rule(int,int)", "waited(int,int)", "done(int,int)", "sees(int,int)", "forget()",
        "which()", "look()", "keep(int)", "back(int)", "count(int)"};
    private static final String[] FORBIDDEN = {"\\bthrows?\\b", "\\btry\\b", "\\bcatch\\b", "\\bsynchronized\\b",
        "\\bassert\\b", "\\bpackage\\b", "->", "::", "\\bstatic\\s*\\{", "\\bprotected\\b", "\\bObject\\b", "@",
        "\\bequals\\s*\\(", "\\bhashCode\\b", "\\btoString\\b", "\\w+Exact\\b", "\\bdouble\\b", "\\bfloat\\b"};

    public static void main(String[] args) throws IOException {
        constants();
        face();
        nestedClasses();
        source();
        Checks.end();
    }

    private static void constants() {
        Checks.due("BAD", NumberedRings.BAD, -1);
        Checks.due("STATE", NumberedRings.STATE, -2);
        Checks.due("FULL", NumberedRings.FULL, -3);
        Checks.due("NONE", NumberedRings.NONE, -9);
        Set<String> names = new TreeSet<>();
        for (Field field : NumberedRings.class.getDeclaredFields()) {
            if (!Modifier.isPrivate(field.getModifiers())) {
                names.add(field.getName());
            }
        }
        same("constants", names, new TreeSet<>(List.of("BAD", "STATE", "FULL", "NONE")));
    }

    private static void face() {
        int modifiers = NumberedRings.class.getModifiers();
        Checks.due("public final", modifiers, Modifier.PUBLIC | Modifier.FINAL);
        Constructor<?>[] constructors = NumberedRings.class.getDeclaredConstructors();
        Checks.due("constructors", constructors.length, 1);
        Checks.due("public constructor", constructors[0].getModifiers(), Modifier.PUBLIC);
        Set<String> methods = new TreeSet<>();
        for (Method method : NumberedRings.class.getDeclaredMethods()) {
            if (!Modifier.isPrivate(method.getModifiers())) {
                methods.add(signature(method));
                Checks.due(method.getName() + " is public alone", method.getModifiers(), Modifier.PUBLIC);
                if (method.getReturnType() != int.class) {
                    Checks.fail(method.getName() + " does not answer an int");
                }
            }
        }
        same("methods", methods, new TreeSet<>(Arrays.asList(FACE)));
        privateNames(NumberedRings.class);
    }

    private static String signature(Method method) {
        StringBuilder types = new StringBuilder();
        for (Class<?> type : method.getParameterTypes()) {
            types.append(types.length() == 0 ? "" : ",").append(type.getName());
        }
        return method.getName() + "(" + types + ")";
    }

    private static void nestedClasses() {
        for (Class<?> nested : NumberedRings.class.getDeclaredClasses()) {
            if (!Modifier.isStatic(nested.getModifiers())) {
                Checks.fail(nested.getName() + " is not static");
            }
            if (Modifier.isPublic(nested.getModifiers())) {
                Checks.fail(nested.getName() + " is public");
            }
            privateNames(nested);
        }
        if (NumberedRings.class.getDeclaredClasses().length > 11) {
            Checks.fail("more than twelve classes");
        }
    }

    /** No method but the face's own bears one of the face's names. */
    private static void privateNames(Class<?> type) {
        Set<String> names = new TreeSet<>();
        for (String method : FACE) {
            names.add(method.substring(0, method.indexOf('(')));
        }
        for (Method method : type.getDeclaredMethods()) {
            boolean ofFace = type == NumberedRings.class && Modifier.isPublic(method.getModifiers());
            if (!ofFace && names.contains(method.getName())) {
                Checks.fail(type.getName() + "." + method.getName() + " bears a public name");
            }
            if (method.getParameterCount() > 7) {
                Checks.fail(type.getName() + "." + method.getName() + " takes more than seven parameters");
            }
        }
        Field[] fields = type.getDeclaredFields();
        long held = Arrays.stream(fields).filter(f -> !Modifier.isStatic(f.getModifiers())).count();
        if (held > 20) {
            Checks.fail(type.getName() + " has more than twenty fields");
        }
        for (Field field : fields) {
            if (Modifier.isStatic(field.getModifiers()) && !Modifier.isFinal(field.getModifiers())) {
                Checks.fail(type.getName() + "." + field.getName() + " is static and not final");
            }
        }
    }

    private static void source() throws IOException {
        String source = Files.readString(Path.of("src/main/java/NumberedRings.java"));
        String code = source.replaceAll("(?s)/\\*.*?\\*/", " ").replaceAll("//[^\n]*", " ");
        for (String forbidden : FORBIDDEN) {
            Matcher matcher = Pattern.compile(forbidden).matcher(code);
            if (matcher.find()) {
                Checks.fail("the source has " + matcher.group());
            }
        }
        for (int i = 0; i < source.length(); i++) {
            if (source.charAt(i) > 126) {
                Checks.fail("the source has a sign above 126 at " + i);
            }
        }
        Matcher imports = Pattern.compile("\\bimport\\s+([\\w.]+)").matcher(code);
        while (imports.find()) {
            if (!List.of("java.util.Arrays", "java.util.ArrayList", "java.util.List").contains(imports.group(1))) {
                Checks.fail("the source imports " + imports.group(1));
            }
        }
    }

    private static void same(String what, Set<String> got, Set<String> want) {
        if (!got.equals(want)) {
            Checks.fail(what + " are " + got + ", due are " + want);
        }
    }
}
