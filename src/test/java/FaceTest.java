import java.lang.reflect.Constructor;
import java.lang.reflect.Field;
import java.lang.reflect.Method;
import java.lang.reflect.Modifier;
import java.util.Arrays;
import java.util.Set;
import java.util.TreeSet;

/** The public face of the document, and the rules of LANGUAGE.md that the compiled class shows. */
public final class FaceTest {
    private static final Check check = new Check();
    private static final String[] CONSTANTS = {
        "OP_NOP=0", "OP_READ=1", "OP_WRITE=2", "OP_CMP=3", "OP_TIMEOUT=4", "OP_CANCEL=5", "OP_MASK=15",
        "FLAG_LINK=16", "RES_OK=0", "ERR_NOENT=-2", "ERR_INVALID=-22", "ERR_MISMATCH=-74", "ERR_CANCELED=-125",
        "BLOCKS=16", "BUFFERS=8", "MAX_OWED=32", "MAX_TIMEOUT=16", "SQ_MIN=2", "SQ_MAX=16", "CQ_MIN=2", "CQ_MAX=16",
        "LAT_MIN=0", "LAT_MAX=4",
    };
    private static final String[] METHODS = {
        "boolean prep(int,int,int,int)", "int enter(int)", "int tick()", "boolean pop()", "int cqReady()",
        "int overflowCount()", "int cqTag(int)", "int cqResult(int)", "int sqPending()", "int liveCount()",
        "int liveTag(int)", "int liveState(int)", "boolean setBuffer(int,int)", "int getBuffer(int)",
        "int getBlock(int)",
    };

    private static void equalSets(String what, Set<String> got, String[] due) {
        Set<String> wanted = new TreeSet<>(Arrays.asList(due));
        if (!got.equals(wanted)) {
            System.out.println(what + " are " + got);
        }
        check.yes(what + " are those of the document", got.equals(wanted));
    }

    private static void classItself() {
        Class<AsyncRings> type = AsyncRings.class;
        check.same("modifiers of the class", type.getModifiers(), Modifier.PUBLIC | Modifier.FINAL);
        check.yes("no package", type.getPackageName().isEmpty());
        check.yes("extends nothing", type.getSuperclass() == Object.class && type.getInterfaces().length == 0);
        check.same("nested classes", type.getDeclaredClasses().length, 0);
        Constructor<?>[] constructors = type.getDeclaredConstructors();
        check.same("constructors", constructors.length, 1);
        check.yes("the constructor is that of the document", constructors[0].toString()
                .equals("public AsyncRings(int,int,int)"));
    }

    private static void constants() throws IllegalAccessException {
        Set<String> seen = new TreeSet<>();
        int others = 0;
        for (Field field : AsyncRings.class.getDeclaredFields()) {
            int modifiers = field.getModifiers();
            boolean constant = Modifier.isStatic(modifiers) && Modifier.isFinal(modifiers);
            if (Modifier.isPublic(modifiers)) {
                check.yes(field + " is a constant int", constant && field.getType() == int.class);
                seen.add(field.getName() + "=" + field.getInt(null));
                continue;
            }
            check.yes(field + " is private", Modifier.isPrivate(modifiers));
            if (Modifier.isStatic(modifiers)) {
                check.yes(field + " is a constant", constant && isWhole(field.getType()));
            } else {
                others++;
                check.yes(field + " has a type of rule 2", isPlain(field.getType()));
            }
        }
        equalSets("the constants", seen, CONSTANTS);
        check.yes("at most forty fields beside the constants", others <= 40);
    }

    private static void methods() {
        Set<String> seen = new TreeSet<>();
        Set<String> publicNames = new TreeSet<>();
        for (Method method : AsyncRings.class.getDeclaredMethods()) {
            if (Modifier.isPublic(method.getModifiers())) {
                check.same("modifiers of " + method, method.getModifiers(), Modifier.PUBLIC);
                String parameters = method.toString().replaceAll("^.*\\(", "(");
                seen.add(method.getReturnType() + " " + method.getName() + parameters);
                publicNames.add(method.getName());
            }
        }
        equalSets("the public methods", seen, METHODS);
        for (Method method : AsyncRings.class.getDeclaredMethods()) {
            if (!Modifier.isPublic(method.getModifiers())) {
                check.yes(method + " is private", Modifier.isPrivate(method.getModifiers()));
                check.no(method + " bears a public name", publicNames.contains(method.getName()));
            }
            check.yes(method + " has at most seven parameters", method.getParameterCount() <= 7);
            check.no(method + " answers an array", method.getReturnType().isArray());
        }
    }

    private static boolean isWhole(Class<?> type) {
        return type == int.class || type == long.class;
    }

    private static boolean isPlain(Class<?> type) {
        Class<?> one = type.isArray() ? type.getComponentType() : type;
        return one.isPrimitive() && one != float.class && one != double.class;
    }

    public static void main(String[] args) throws IllegalAccessException {
        classItself();
        constants();
        methods();
        check.end();
    }
}
