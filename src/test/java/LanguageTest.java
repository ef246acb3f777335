import java.io.IOException;
import java.lang.reflect.Executable;
import java.lang.reflect.Field;
import java.lang.reflect.Method;
import java.lang.reflect.Modifier;
import java.nio.file.Files;
import java.nio.file.Path;
import java.util.Set;
import java.util.TreeSet;
import java.util.regex.Matcher;
import java.util.regex.Pattern;

/** Those rules of LANGUAGE.md that can be seen from the class and from its text. */
public final class LanguageTest {
    private static final Due DUE = new Due();
    private static final Class<SoundingSheet> FACE = SoundingSheet.class;
    private static final Set<Class<?>> CONSTANTS = Set.of(int.class, long.class, boolean.class, char.class,
        String.class, int[].class, long[].class, char[].class, byte[].class);
    private static final Set<String> RULED_OUT =
        Set.of("package", "throw", "throws", "try", "catch", "finally", "synchronized", "assert");
    private static final Set<String> LIBRARY =
        Set.of("Arrays.fill", "Arrays.copyOf", "Arrays.copyOfRange", "System.arraycopy", "List.of");
    private static final Set<String> NUMBERS = Set.of("Math", "Integer", "Long");

    public static void main(String[] args) throws IOException {
        String text = Files.readString(Path.of("src/main/java/SoundingSheet.java"));
        String code = text.replaceAll("(?s)/\\*.*?\\*/", "").replaceAll("//.*", "");
        inside(FACE);
        for (Class<?> one : FACE.getDeclaredClasses()) {
            DUE.yes(one + " is static", Modifier.isStatic(one.getModifiers()));
            DUE.no(one + " is seen", isSeen(one.getModifiers()));
            inside(one);
        }
        noPrivateOneBearsAPublicName();
        words(code);
        library(code);
        DUE.end();
    }

    private static boolean isSeen(int modifiers) {
        return Modifier.isPublic(modifiers) || Modifier.isProtected(modifiers);
    }

    /** Rules 5, 6 and 11. */
    private static void inside(Class<?> one) {
        for (Field field : one.getDeclaredFields()) {
            if (Modifier.isStatic(field.getModifiers()) && !field.isSynthetic()) {
                DUE.yes(field + " is final", Modifier.isFinal(field.getModifiers()));
                boolean ofEnum = field.getType().isEnum() || one.isEnum();
                DUE.yes(field + " is a constant", ofEnum || CONSTANTS.contains(field.getType()));
            }
        }
        parameters(one.getDeclaredMethods());
        parameters(one.getDeclaredConstructors());
        for (Method method : one.getDeclaredMethods()) {
            boolean ofObject = Set.of("equals", "hashCode", "toString").contains(method.getName());
            DUE.no(method + " is one of Object", ofObject && !one.isRecord());
        }
    }

    private static void parameters(Executable[] all) {
        for (Executable one : all) {
            DUE.yes(one + " takes at most seven", one.isSynthetic() || one.getParameterCount() <= 7);
        }
    }

    /** Rule 1; FaceTest looks at the rest of it. */
    private static void noPrivateOneBearsAPublicName() {
        TreeSet<String> face = new TreeSet<>();
        for (Method method : FACE.getDeclaredMethods()) {
            if (Modifier.isPublic(method.getModifiers())) {
                face.add(method.getName());
            }
        }
        for (Method method : FACE.getDeclaredMethods()) {
            boolean isPrivate = Modifier.isPrivate(method.getModifiers());
            DUE.no(method + " bears a public name", isPrivate && face.contains(method.getName()));
        }
    }

    /** Rules 2 and 6. */
    private static void words(String code) {
        Matcher m = Pattern.compile("[A-Za-z_]\\w*|::").matcher(code);
        while (m.find()) {
            DUE.no("the word " + m.group(), RULED_OUT.contains(m.group()) || m.group().equals("::"));
        }
        DUE.no("a lambda", Pattern.compile("(\\)|\\(\\s*\\w+|=\\s*\\w+|,\\s*\\w+)\\s*->").matcher(
            code.replaceAll("\\b(case [^:;{}]*?|default\\s*)->", "")).find());
    }

    /** Rules 4 and 13: of the library only what stands there. */
    private static void library(String code) {
        Matcher imports = Pattern.compile("\\bimport ([^;]*);").matcher(code);
        while (imports.find()) {
            DUE.yes("import " + imports.group(1), imports.group(1).startsWith("java.util."));
        }
        TreeSet<String> own = new TreeSet<>();
        for (Class<?> one : FACE.getDeclaredClasses()) {
            own.add(one.getSimpleName());
        }
        Matcher calls = Pattern.compile("\\b([A-Z]\\w*)\\.([a-z]\\w*)\\s*\\(").matcher(code);
        while (calls.find()) {
            String call = calls.group(1) + "." + calls.group(2);
            boolean ofNumbers = NUMBERS.contains(calls.group(1)) && !call.endsWith("Exact");
            DUE.yes(call, ofNumbers || LIBRARY.contains(call) || own.contains(calls.group(1)));
        }
    }
}
