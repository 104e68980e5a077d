import java.lang.reflect.Constructor;
import java.lang.reflect.Field;
import java.lang.reflect.Member;
import java.lang.reflect.Method;
import java.lang.reflect.Modifier;
import java.util.Arrays;
import java.util.TreeSet;

/** The constants and the public face of the document: all of it, and nothing else. */
public final class FaceTest {
    private static final Check CHECK = new Check();

    private static final String CONSTANTS = """
        OK 0, NO 0, YES 1, BAD 101, OPEN 102, CLOSED 103, FULL 104, PRESENT 105, ABSENT 106, SAME 107,
        KIND_TRUE 0, KIND_NOT 1, KIND_AND 2, KIND_UNTIL 3, KIND_DIV 4,
        MAX_STATES 12, MAX_LABELS 3, MAX_MOVES 32, MAX_FORMULAS 32""";

    private static final String METHODS = """
        addMove 3, removeMove 3, hasMove 3, moveCount 0, minimise 0, reopen 0, blockCount 0, blockOf 1,
        leader 1, quotientMove 3, quotientMoveCount 0, make 4, tell 2, holds 2, formulaCount 0""";

    public static void main(String[] args) throws ReflectiveOperationException {
        Class<?> face = BranchingBisim.class;
        int finalPublic = Modifier.PUBLIC | Modifier.FINAL;
        CHECK.due("class", "modifiers", face.getModifiers(), finalPublic);
        CHECK.due("class", "superclass", face.getSuperclass(), Object.class);
        CHECK.due("class", "interfaces", face.getInterfaces().length, 0);
        CHECK.due("class", "nested classes", face.getDeclaredClasses().length, 0);
        constructor(face);
        constants(face, finalPublic | Modifier.STATIC);
        methods(face);
        CHECK.end();
    }

    private static void constructor(Class<?> face) {
        Constructor<?>[] all = face.getDeclaredConstructors();
        CHECK.due("class", "constructors", all.length, 1);
        CHECK.due("constructor", "modifiers", all[0].getModifiers(), Modifier.PUBLIC);
        CHECK.isTrue("constructor", "has four int parameters", allInts(all[0].getParameterTypes(), 4));
    }

    private static void constants(Class<?> face, int modifiers) throws ReflectiveOperationException {
        TreeSet<String> due = new TreeSet<>();
        for (String entry : CONSTANTS.split(",\\s*")) {
            String[] parts = entry.split(" ");
            Field field = face.getDeclaredField(parts[0]);
            CHECK.due(parts[0], "type", field.getType(), int.class);
            CHECK.due(parts[0], "modifiers", field.getModifiers(), modifiers);
            CHECK.due(parts[0], "value", field.getInt(null), Integer.parseInt(parts[1]));
            due.add(parts[0]);
        }
        CHECK.due("class", "fields that are not private", notPrivate(face.getDeclaredFields()), due);
    }

    private static void methods(Class<?> face) throws ReflectiveOperationException {
        TreeSet<String> due = new TreeSet<>();
        for (String entry : METHODS.split(",\\s*")) {
            String[] parts = entry.split(" ");
            Class<?>[] types = new Class<?>[Integer.parseInt(parts[1])];
            Arrays.fill(types, int.class);
            Method method = face.getDeclaredMethod(parts[0], types);
            CHECK.due(parts[0], "answer type", method.getReturnType(), int.class);
            CHECK.due(parts[0], "modifiers", method.getModifiers(), Modifier.PUBLIC);
            long named = Arrays.stream(face.getDeclaredMethods()).filter(m -> m.getName().equals(parts[0])).count();
            CHECK.due(parts[0], "methods of that name", named, 1L);
            due.add(parts[0]);
        }
        CHECK.due("class", "methods that are not private", notPrivate(face.getDeclaredMethods()), due);
    }

    private static boolean allInts(Class<?>[] types, int many) {
        return types.length == many && Arrays.stream(types).allMatch(type -> type == int.class);
    }

    private static TreeSet<String> notPrivate(Member[] members) {
        TreeSet<String> names = new TreeSet<>();
        for (Member member : members) {
            if (!Modifier.isPrivate(member.getModifiers())) {
                names.add(member.getName());
            }
        }
        return names;
    }
}
