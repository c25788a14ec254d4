import java.lang.reflect.Constructor;
import java.lang.reflect.Field;
import java.lang.reflect.Member;
import java.lang.reflect.Method;
import java.lang.reflect.Modifier;
import java.util.Set;
import java.util.TreeSet;

/** The document's public face, and nothing beside it that is not private. */
public final class FaceTest {
    private static final Set<String> FACE = Set.of(
            "int AND = 0", "int OR = 1", "int XOR = 2", "int NAND = 3", "int NOR = 4", "int NOT = 5",
            "int NONE = -1",
            "ShiftSignatures()",
            "int polynomial(long) IllegalArgumentException",
            "long times(long long) IllegalArgumentException",
            "long power(long long) IllegalArgumentException",
            "long residue(long)",
            "boolean irreducible()",
            "boolean primitive()",
            "long order()",
            "long load(long) IllegalArgumentException",
            "long steps(long) IllegalArgumentException",
            "int channel(long) IllegalArgumentException IllegalStateException",
            "int pattern()",
            "int gate(int int int) IllegalArgumentException IndexOutOfBoundsException IllegalStateException",
            "int output(int) IndexOutOfBoundsException IllegalStateException",
            "int answer(int int) IndexOutOfBoundsException",
            "long session(int int) IndexOutOfBoundsException IllegalArgumentException",
            "int faults(int int) IndexOutOfBoundsException IllegalArgumentException",
            "int first(int int) IndexOutOfBoundsException IllegalArgumentException");

    public static void main(String[] args) throws IllegalAccessException {
        Due due = new Due();
        int kind = ShiftSignatures.class.getModifiers();
        due.answer("the class is public", Modifier.isPublic(kind), true);
        due.answer("the class is final", Modifier.isFinal(kind), true);
        Set<String> seen = membersThatAreNotPrivate();
        for (String member : FACE) {
            due.answer("the face has " + member, seen.contains(member), true);
        }
        for (String member : seen) {
            due.answer("the document has " + member, FACE.contains(member), true);
        }
        for (Class<?> inside : ShiftSignatures.class.getDeclaredClasses()) {
            due.answer(inside + " is static", Modifier.isStatic(inside.getModifiers()), true);
            due.answer(inside + " is public", Modifier.isPublic(inside.getModifiers()), false);
            due.answer(inside + " is protected", Modifier.isProtected(inside.getModifiers()), false);
        }
        for (String name : privateNames()) {
            for (String member : FACE) {
                due.answer(name + " is private and bears the name of " + member, member.contains(" " + name + "("), false);
            }
        }
        due.end();
    }

    private static Set<String> membersThatAreNotPrivate() throws IllegalAccessException {
        Set<String> seen = new TreeSet<>();
        for (Field field : ShiftSignatures.class.getDeclaredFields()) {
            if (!Modifier.isPrivate(field.getModifiers())) {
                seen.add(constant(field));
            }
        }
        for (Constructor<?> made : ShiftSignatures.class.getDeclaredConstructors()) {
            if (!Modifier.isPrivate(made.getModifiers())) {
                seen.add(hidden(made) + "ShiftSignatures(" + names(made.getParameterTypes()).trim() + ")"
                        + names(made.getExceptionTypes()));
            }
        }
        for (Method method : ShiftSignatures.class.getDeclaredMethods()) {
            if (!Modifier.isPrivate(method.getModifiers())) {
                seen.add(hidden(method) + method.getReturnType().getSimpleName() + " " + method.getName() + "("
                        + names(method.getParameterTypes()).trim() + ")" + names(method.getExceptionTypes()));
            }
        }
        return seen;
    }

    private static Set<String> privateNames() {
        Set<String> names = new TreeSet<>();
        for (Method method : ShiftSignatures.class.getDeclaredMethods()) {
            if (Modifier.isPrivate(method.getModifiers())) {
                names.add(method.getName());
            }
        }
        for (Class<?> inside : ShiftSignatures.class.getDeclaredClasses()) {
            for (Method method : inside.getDeclaredMethods()) {
                names.add(method.getName());
            }
        }
        return names;
    }

    private static String constant(Field field) throws IllegalAccessException {
        int kind = field.getModifiers();
        boolean fixed = Modifier.isStatic(kind) && Modifier.isFinal(kind);
        String value = fixed ? " = " + field.get(null) : " (no constant)";
        return hidden(field) + field.getType().getSimpleName() + " " + field.getName() + value;
    }

    private static String hidden(Member member) {
        return Modifier.isPublic(member.getModifiers()) ? "" : "not public: ";
    }

    private static String names(Class<?>[] types) {
        StringBuilder text = new StringBuilder();
        for (Class<?> type : types) {
            text.append(' ').append(type.getSimpleName());
        }
        return text.toString();
    }
}
