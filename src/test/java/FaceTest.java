import java.lang.reflect.Constructor;
import java.lang.reflect.Field;
import java.lang.reflect.Method;
import java.lang.reflect.Modifier;
import java.util.Arrays;
import java.util.Set;
import java.util.TreeSet;

/** The class has the face of the document, and shows nothing beside it. */
public final class FaceTest {
    private static final String[] METHODS = {
        "statement/4", "retract/0", "clear/0", "statements/0", "base/2", "run/1", "poke/2", "fill/4",
        "peek/1", "total/0", "setTotal/1", "digest/0", "cellOf/2", "spread/2", "meet/3"
    };
    private static final String[] CONSTANTS = {
        "MOVE=0", "ADD=1", "SUB=2", "MUL=3", "XOR=4", "PLUS=5", "SUM=6", "COUNT=7"
    };

    private static int wrong = 0;

    private static void due(String what, Object got, Object want) {
        if (!got.equals(want)) {
            wrong++;
            System.out.println(what + ": " + got + ", due is " + want);
        }
    }

    private static Set<String> shownMethods() {
        Set<String> shown = new TreeSet<>();
        for (Method method : LoopVersioner.class.getDeclaredMethods()) {
            int modifiers = method.getModifiers();
            if (Modifier.isPrivate(modifiers)) {
                continue;
            }
            boolean plain = Modifier.isPublic(modifiers) && !Modifier.isStatic(modifiers)
                    && method.getReturnType() == int.class;
            for (Class<?> type : method.getParameterTypes()) {
                plain &= type == int.class;
            }
            shown.add(method.getName() + "/" + method.getParameterCount() + (plain ? "" : " " + method));
        }
        return shown;
    }

    private static Set<String> shownFields() throws IllegalAccessException {
        Set<String> shown = new TreeSet<>();
        for (Field field : LoopVersioner.class.getDeclaredFields()) {
            int modifiers = field.getModifiers();
            if (Modifier.isPrivate(modifiers)) {
                continue;
            }
            boolean constant = Modifier.isPublic(modifiers) && Modifier.isStatic(modifiers)
                    && Modifier.isFinal(modifiers) && field.getType() == int.class;
            shown.add(constant ? field.getName() + "=" + field.getInt(null) : field.toString());
        }
        return shown;
    }

    public static void main(String[] args) throws IllegalAccessException {
        Class<?> face = LoopVersioner.class;
        due("modifiers", Modifier.toString(face.getModifiers()), "public final");
        due("package", face.getPackageName(), "");
        due("superclass", face.getSuperclass(), Object.class);
        due("interfaces", face.getInterfaces().length, 0);
        due("nested classes", face.getDeclaredClasses().length, 0);
        Constructor<?>[] constructors = face.getDeclaredConstructors();
        due("constructors", constructors.length, 1);
        due("constructor", constructors[0].toString(), "public LoopVersioner()");
        due("methods", shownMethods(), new TreeSet<>(Arrays.asList(METHODS)));
        due("constants", shownFields(), new TreeSet<>(Arrays.asList(CONSTANTS)));
        System.out.println(wrong == 0 ? "the face is as due" : wrong + " parts of the face are not as due");
        if (wrong != 0) {
            System.exit(1);
        }
    }
}
