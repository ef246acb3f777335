import java.lang.reflect.Constructor;
import java.lang.reflect.Field;
import java.lang.reflect.Method;
import java.lang.reflect.Modifier;
import java.util.ArrayList;
import java.util.Arrays;
import java.util.List;
import java.util.TreeSet;

/** The public face as the document has it, and nothing else that can be seen from outside. */
public final class FaceTest {
    private static final Due DUE = new Due();
    private static final String[] METHODS = {"int line 2", "int tide 3", "boolean speed 2", "boolean shift 2",
        "int lead 5", "int echo 5", "int sweep 7", "int notice 5", "boolean gone 2", "int count 1", "int sounding 2",
        "int depth 1", "int boat 2", "int water 3", "int cross 4", "int worst 1", "int shown 4", "int why 3",
        "int bottom 2", "int deepest 3", "int way 4", "int narrow 3", "boolean draught 4", "int check 3",
        "boolean undo 0", "void image 0", "boolean load 0"};

    public static void main(String[] args) {
        Class<SoundingSheet> face = SoundingSheet.class;
        DUE.yes("public and final", Modifier.isPublic(face.getModifiers()) && Modifier.isFinal(face.getModifiers()));
        constants(face);
        constructors(face);
        methods(face);
        nested(face);
        DUE.end();
    }

    private static void constants(Class<?> face) {
        DUE.is("NONE", SoundingSheet.NONE, -1);
        DUE.is("UNKNOWN", SoundingSheet.UNKNOWN, -30000);
        List<String> seen = new ArrayList<>();
        for (Field f : face.getDeclaredFields()) {
            if (!Modifier.isPrivate(f.getModifiers())) {
                seen.add(f.getName());
            }
            boolean changes = Modifier.isStatic(f.getModifiers()) && !Modifier.isFinal(f.getModifiers());
            DUE.no("static state " + f.getName(), changes);
        }
        DUE.yes("fields that can be seen: " + seen, seen.equals(List.of("NONE", "UNKNOWN")));
    }

    private static void constructors(Class<?> face) {
        Constructor<?>[] all = face.getDeclaredConstructors();
        DUE.is("constructors", all.length, 1);
        DUE.is("its parameters", all[0].getParameterCount(), 0);
        DUE.yes("public", Modifier.isPublic(all[0].getModifiers()));
    }

    private static void methods(Class<?> face) {
        TreeSet<String> want = new TreeSet<>(Arrays.asList(METHODS));
        TreeSet<String> seen = new TreeSet<>();
        TreeSet<String> names = new TreeSet<>();
        for (Method method : face.getDeclaredMethods()) {
            if (!Modifier.isPrivate(method.getModifiers())) {
                DUE.yes(method.getName() + " public", Modifier.isPublic(method.getModifiers()));
                seen.add(method.getReturnType() + " " + method.getName() + " " + method.getParameterCount());
                names.add(method.getName());
                for (Class<?> type : method.getParameterTypes()) {
                    DUE.yes(method.getName() + " takes " + type, type == int.class);
                }
            }
        }
        DUE.yes("methods: " + seen, seen.equals(want));
        for (Method method : face.getDeclaredMethods()) {
            boolean hidden = Modifier.isPrivate(method.getModifiers());
            DUE.no("private " + method.getName(), hidden && names.contains(method.getName()));
        }
    }

    private static void nested(Class<?> face) {
        for (Class<?> inside : face.getDeclaredClasses()) {
            DUE.yes(inside + " static", Modifier.isStatic(inside.getModifiers()));
            DUE.no(inside + " public", Modifier.isPublic(inside.getModifiers()));
        }
    }
}
