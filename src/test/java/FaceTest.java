import java.lang.reflect.Constructor;
import java.lang.reflect.Field;
import java.lang.reflect.Method;
import java.lang.reflect.Modifier;
import java.util.Arrays;
import java.util.Set;
import java.util.TreeSet;

/** The constants and the public face of the document, and the rules of LANGUAGE.md that the compiled class shows. */
public final class FaceTest {
    private static final String[] CONSTANTS = {
        "OP_NOP=0", "OP_READ=1", "OP_WRITE=2", "OP_CMP=3", "OP_TIMEOUT=4", "OP_CANCEL=5", "OP_MASK=15",
        "FLAG_LINK=16", "RES_OK=0", "ERR_NOENT=-2", "ERR_INVALID=-22", "ERR_MISMATCH=-74", "ERR_CANCELED=-125",
        "BLOCKS=16", "BUFFERS=8", "MAX_OWED=32", "MAX_TIMEOUT=16", "SQ_MIN=2", "SQ_MAX=16", "CQ_MIN=2", "CQ_MAX=16",
        "LAT_MIN=0", "LAT_MAX=4",
    };
    private static final String[] METHODS = {
        "boolean prep(int,int,int,int)", "int enter(int)", "int tick()", "boolean pop()", "int cqReady()",
        "int overflowCount()", "int cqTag(int)", "int cqResult(int)", "int sqPending()", "int liveCount()",
        "int liveTag(int)", "int liveState(int)", "boolean setBuffer(int,int)", "int getBuffer(int)",
        "int getBlock(int)",
    };

    private static void equalSets(Check check, String what, Set<String> got, String[] due) {
        Set<String> wanted = new TreeSet<>(Arrays.asList(due));
        check.yes(what + " are " + got + ", due are " + wanted, got.equals(wanted));
    }

    private static int valueOf(Field field) {
        try {
            return field.getInt(null);
        } catch (IllegalAccessException hidden) {
            throw new IllegalStateException(hidden);
        }
    }

    private static void constants(Check check) {
        Set<String> seen = new TreeSet<>();
        for (Field field : AsyncRings.class.getDeclaredFields()) {
            int modifiers = field.getModifiers();
            if (Modifier.isPublic(modifiers)) {
                check.same("modifiers of " + field, modifiers, Modifier.PUBLIC | Modifier.STATIC | Modifier.FINAL);
                check.yes(field + " is an int", field.getType() == int.class);
                seen.add(field.getName() + "=" + valueOf(field));
            }
        }
        equalSets(check, "the constants", seen, CONSTANTS);
    }

    private static void classItself(Check check) {
        Class<AsyncRings> type = AsyncRings.class;
        check.same("modifiers of the class", type.getModifiers(), Modifier.PUBLIC | Modifier.FINAL);
        check.yes("no package", type.getPackageName().isEmpty());
        check.yes("extends nothing", type.getSuperclass() == Object.class && type.getInterfaces().length == 0);
    }

    private static void constructor(Check check) {
        Constructor<?>[] constructors = AsyncRings.class.getDeclaredConstructors();
        check.same("constructors", constructors.length, 1);
        check.yes("the constructor is that of the document", constructors[0].toString()
                .equals("public AsyncRings(int,int,int)"));
    }

    private static void methods(Check check) {
        Set<String> seen = new TreeSet<>();
        for (Method method : AsyncRings.class.getDeclaredMethods()) {
            if (Modifier.isPublic(method.getModifiers())) {
                check.same("modifiers of " + method, method.getModifiers(), Modifier.PUBLIC);
                String parameters = method.toString().replaceAll("^.*\\(", "(");
                seen.add(method.getReturnType() + " " + method.getName() + parameters);
            }
        }
        equalSets(check, "the public methods", seen, METHODS);
    }

    private static void othersArePrivate(Check check) {
        for (Field field : AsyncRings.class.getDeclaredFields()) {
            check.yes(field + " is public or private", isPublicOrPrivate(field.getModifiers()));
        }
        for (Method method : AsyncRings.class.getDeclaredMethods()) {
            check.yes(method + " is public or private", isPublicOrPrivate(method.getModifiers()));
        }
    }

    private static void noPrivateMethodHasAPublicName(Check check) {
        Set<String> publicNames = new TreeSet<>();
        for (Method method : AsyncRings.class.getMethods()) {
            publicNames.add(method.getName());
        }
        for (Method method : AsyncRings.class.getDeclaredMethods()) {
            if (!Modifier.isPublic(method.getModifiers())) {
                check.no(method + " bears a public name", publicNames.contains(method.getName()));
            }
        }
    }

    private static void nothingIsNested(Check check) {
        check.same("nested classes", AsyncRings.class.getDeclaredClasses().length, 0);
    }

    private static void fieldTypes(Check check) {
        for (Field field : AsyncRings.class.getDeclaredFields()) {
            Class<?> type = field.getType();
            Class<?> one = type.isArray() ? type.getComponentType() : type;
            check.yes(field + " has a type of rule 2", one.isPrimitive() && one != float.class && one != double.class);
        }
    }

    private static void noArrayIsAnswered(Check check) {
        for (Method method : AsyncRings.class.getDeclaredMethods()) {
            check.no(method + " answers an array", method.getReturnType().isArray());
        }
    }

    private static void staticFields(Check check) {
        for (Field field : AsyncRings.class.getDeclaredFields()) {
            if (Modifier.isStatic(field.getModifiers())) {
                boolean whole = field.getType() == int.class || field.getType() == long.class;
                check.yes(field + " is a whole constant", whole && Modifier.isFinal(field.getModifiers()));
            }
        }
    }

    private static void fewParameters(Check check) {
        for (Method method : AsyncRings.class.getDeclaredMethods()) {
            check.yes(method + " has at most seven parameters", method.getParameterCount() <= 7);
        }
    }

    private static void fewFields(Check check) {
        int fields = 0;
        for (Field field : AsyncRings.class.getDeclaredFields()) {
            fields += Modifier.isStatic(field.getModifiers()) ? 0 : 1;
        }
        check.yes("at most forty fields beside the constants", fields <= 40);
    }

    private static boolean isPublicOrPrivate(int modifiers) {
        return Modifier.isPublic(modifiers) || Modifier.isPrivate(modifiers);
    }

    public static void main(String[] args) {
        Check check = new Check("What it is");
        check.sentence("Public constants:", FaceTest::constants);

        check.part("The public face");
        check.sentence("public final class AsyncRings {", FaceTest::classItself);
        check.sentence("public AsyncRings(int sqSize, int cqSize, int latency)", FaceTest::constructor);
        check.sentence("public boolean prep(int opFlags, int a, int b, int tag) .. public int getBlock(int i)",
                FaceTest::methods);

        check.part("LANGUAGE.md");
        check.sentence("1. no other public, protected or package-visible member", FaceTest::othersArePrivate);
        check.sentence("1. No private method bears the name of a public one.",
                FaceTest::noPrivateMethodHasAPublicName);
        check.sentence("1. No nested class, interface, enum or record.", FaceTest::nothingIsNested);
        check.sentence("2. Types: int, long, short, byte, char, boolean, and one-dimensional arrays of these.",
                FaceTest::fieldTypes);
        check.sentence("4. An array is never answered by a method", FaceTest::noArrayIsAnswered);
        check.sentence("5. Static fields are compile-time constants of int or long alone.", FaceTest::staticFields);
        check.sentence("10. A method takes at most seven parameters", FaceTest::fewParameters);
        check.sentence("10. at most some forty fields beside its constants", FaceTest::fewFields);
        check.end();
    }
}
