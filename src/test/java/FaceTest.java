import java.lang.reflect.Constructor;
import java.lang.reflect.Field;
import java.lang.reflect.Method;
import java.lang.reflect.Modifier;
import java.util.Set;
import java.util.TreeSet;

/** The public face is the document's, and nothing beside it can be seen or changed from outside. */
public final class FaceTest {
    private static final Set<String> FACE = Set.of(
            "int function(int,int,int)", "int code(int,int,int)", "boolean drop()", "boolean entry(int,int)",
            "int argument(long)", "boolean call(int)", "int run(int)", "int state(int)", "long result(int)",
            "long global(int)", "int memory(int)", "int look(int,int)");

    public static void main(String[] args) {
        Checks checks = new Checks("face");
        Class<?> c = StackMachine.class;
        checks.due("public and final", c.getModifiers(), Modifier.PUBLIC | Modifier.FINAL);
        checks.due("constructors", c.getDeclaredConstructors().length, 1);
        for (Constructor<?> made : c.getDeclaredConstructors()) {
            checks.due("public constructor", made.getModifiers(), Modifier.PUBLIC);
            checks.due("without parameters", made.getParameterCount(), 0);
        }
        methods(checks, c);
        fields(checks, c);
        for (Class<?> inside : c.getDeclaredClasses()) {
            checks.due(inside + " is static", Modifier.isStatic(inside.getModifiers()), true);
            checks.due(inside + " is not seen", Modifier.isPublic(inside.getModifiers()), false);
            fields(checks, inside);
        }
        checks.end();
    }

    private static void methods(Checks checks, Class<?> c) {
        Set<String> seen = new TreeSet<>();
        for (Method method : c.getDeclaredMethods()) {
            if (Modifier.isPrivate(method.getModifiers())) continue;
            StringBuilder text = new StringBuilder(method.getReturnType() + " " + method.getName() + "(");
            for (Class<?> p : method.getParameterTypes()) text.append(text.charAt(text.length() - 1) == '(' ? "" : ",").append(p);
            seen.add(text.append(")").toString());
            checks.due(method + " is public alone", method.getModifiers(), Modifier.PUBLIC);
        }
        checks.due("just the document's methods: " + seen, seen.equals(FACE), true);
    }

    private static void fields(Checks checks, Class<?> c) {
        for (Field field : c.getDeclaredFields()) {
            int is = field.getModifiers();
            if (c == StackMachine.class) checks.due(field + " is private", Modifier.isPrivate(is), true);
            if (Modifier.isStatic(is)) checks.due(field + " is final", Modifier.isFinal(is), true);
        }
    }
}
