import java.lang.reflect.Constructor;
import java.lang.reflect.Field;
import java.lang.reflect.Method;
import java.lang.reflect.Modifier;
import java.util.Arrays;
import java.util.Set;
import java.util.TreeSet;

/** The class has the document's face, and shows nothing else. */
public final class FaceTest {
    private static final String[] FACE = {
        "boolean alter(int, int)", "int copy()", "int depth()", "int enter(int, int)", "int form()",
        "int info(int)", "int leave()", "int level()", "int load(int)",
        "int next() throws IllegalArgumentException, IllegalStateException", "int op(int, int)",
        "int record(int, int)", "int value(int)", "int wipe()", "int word(int)", "int words()",
        "void clear()", "void drop()", "void rewind()",
    };

    public static void main(String[] args) {
        int modifiers = BitBlocks.class.getModifiers();
        Check.due("the class is public", Modifier.isPublic(modifiers), true);
        Check.due("the class is final", Modifier.isFinal(modifiers), true);
        methodsAreThoseOfTheDocument();
        nothingElseIsSeen();
        Check.end();
    }

    private static void methodsAreThoseOfTheDocument() {
        Set<String> seen = new TreeSet<>();
        Set<String> hidden = new TreeSet<>();
        for (Method method : BitBlocks.class.getDeclaredMethods()) {
            if (Modifier.isPrivate(method.getModifiers())) {
                hidden.add(method.getName());
            } else {
                Check.due(method + " is public", Modifier.isPublic(method.getModifiers()), true);
                seen.add(told(method));
            }
        }
        Set<String> want = new TreeSet<>(Arrays.asList(FACE));
        Check.due("the methods " + seen + " are " + want, seen.equals(want), true);
        for (Class<?> inside : BitBlocks.class.getDeclaredClasses()) {
            for (Method method : inside.getDeclaredMethods()) {
                hidden.add(method.getName());
            }
        }
        for (String line : FACE) {
            String name = line.substring(line.indexOf(' ') + 1, line.indexOf('('));
            Check.due("a method inside is named " + name, hidden.contains(name), false);
        }
    }

    private static String told(Method method) {
        String text = method.getReturnType().getSimpleName() + " " + method.getName()
                + names(method.getParameterTypes());
        String thrown = names(method.getExceptionTypes());
        return thrown.equals("()")
                ? text : text + " throws " + thrown.substring(1, thrown.length() - 1);
    }

    private static String names(Class<?>[] types) {
        StringBuilder text = new StringBuilder("(");
        for (Class<?> type : types) {
            text.append(text.length() == 1 ? "" : ", ").append(type.getSimpleName());
        }
        return text.append(')').toString();
    }

    private static void nothingElseIsSeen() {
        Constructor<?>[] constructors = BitBlocks.class.getDeclaredConstructors();
        Check.due("constructors", constructors.length, 1);
        Check.due("its parameters", constructors[0].getParameterCount(), 0);
        Check.due("it is public", Modifier.isPublic(constructors[0].getModifiers()), true);
        for (Field field : BitBlocks.class.getDeclaredFields()) {
            int modifiers = field.getModifiers();
            Check.due(field + " is private", Modifier.isPrivate(modifiers), true);
            Check.due(field + " is no static variable",
                    !Modifier.isStatic(modifiers) || Modifier.isFinal(modifiers), true);
        }
        for (Class<?> inside : BitBlocks.class.getDeclaredClasses()) {
            Check.due(inside + " is static", Modifier.isStatic(inside.getModifiers()), true);
            Check.due(inside + " is public", Modifier.isPublic(inside.getModifiers()), false);
        }
    }
}
