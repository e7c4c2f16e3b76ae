import java.lang.reflect.Constructor;
import java.lang.reflect.Field;
import java.lang.reflect.Method;
import java.lang.reflect.Modifier;
import java.util.ArrayList;
import java.util.Arrays;
import java.util.HashSet;
import java.util.List;
import java.util.Set;
import java.util.TreeSet;

/** The public face of the document, and rules 1, 2, 5 and 10 of LANGUAGE.md as far as a class file shows them. */
public final class FaceTest {
    private static final String[] FACE = {
        "int BAD", "int FULL", "MeshRouters()",
        "int write(int)", "int wipe()", "int draft()", "int send(int,int,int)",
        "boolean hold(int,int,int)", "int settle()", "int waiting(int)", "int arrived(int,int)",
        "int words(int,int,int)", "int word(int,int,int)", "int take(int,int)", "int crossings()",
        "int messages()", "int distance(int,int)", "int held(int)", "int sum(int)",
    };

    public static void main(String[] args) {
        Check check = new Check();
        check.due("BAD", MeshRouters.BAD, -1);
        check.due("FULL", MeshRouters.FULL, -2);
        check.due("class is public and final",
            MeshRouters.class.getModifiers(), Modifier.PUBLIC | Modifier.FINAL);
        check.due("nested classes", MeshRouters.class.getDeclaredClasses().length, 0);
        check.due("interfaces", MeshRouters.class.getInterfaces().length, 0);
        showsTheFaceAlone(check);
        keepsFieldsToTheRules(check);
        keepsMethodsToTheRules(check);
        check.end();
    }

    private static void showsTheFaceAlone(Check check) {
        Set<String> want = new TreeSet<>(Arrays.asList(FACE));
        Set<String> got = new TreeSet<>();
        for (Field f : MeshRouters.class.getDeclaredFields()) {
            if (!Modifier.isPrivate(f.getModifiers())) {
                check.due(f.getName() + " is a public constant", f.getModifiers(),
                    Modifier.PUBLIC | Modifier.STATIC | Modifier.FINAL);
                got.add(f.getType() + " " + f.getName());
            }
        }
        for (Constructor<?> c : MeshRouters.class.getDeclaredConstructors()) {
            check.due("the constructor is public", c.getModifiers(), Modifier.PUBLIC);
            got.add("MeshRouters(" + types(c.getParameterTypes()) + ")");
        }
        for (Method m : MeshRouters.class.getDeclaredMethods()) {
            if (!Modifier.isPrivate(m.getModifiers())) {
                check.due(m.getName() + " is public", m.getModifiers(), Modifier.PUBLIC);
                got.add(m.getReturnType() + " " + m.getName() + "(" + types(m.getParameterTypes()) + ")");
            }
        }
        check.due("the face " + got, got.equals(want), true);
    }

    private static void keepsFieldsToTheRules(Check check) {
        int fields = 0;
        for (Field f : MeshRouters.class.getDeclaredFields()) {
            Class<?> type = f.getType();
            if (Modifier.isStatic(f.getModifiers())) {
                check.due("static " + f.getName() + " is a constant number",
                    Modifier.isFinal(f.getModifiers()) && (type == int.class || type == long.class), true);
            } else {
                fields++;
                check.due("the type of " + f.getName(), isAllowed(type), true);
            }
        }
        check.due("at most forty fields", fields <= 40, true);
    }

    private static void keepsMethodsToTheRules(Check check) {
        Set<String> open = new HashSet<>();
        for (Method m : MeshRouters.class.getDeclaredMethods()) {
            if (Modifier.isPublic(m.getModifiers())) {
                open.add(m.getName());
            }
        }
        for (Method m : MeshRouters.class.getDeclaredMethods()) {
            check.due(m.getName() + " takes at most seven", m.getParameterCount() <= 7, true);
            check.due(m.getName() + " answers no array", m.getReturnType().isPrimitive(), true);
            for (Class<?> type : m.getParameterTypes()) {
                check.due(m.getName() + " takes " + type, isAllowed(type), true);
            }
            if (Modifier.isPrivate(m.getModifiers())) {
                check.due(m.getName() + " bears a public name", open.contains(m.getName()), false);
            }
        }
    }

    private static boolean isAllowed(Class<?> type) {
        Class<?> part = type.isArray() ? type.getComponentType() : type;
        return part.isPrimitive() && part != float.class && part != double.class;
    }

    private static String types(Class<?>[] parameters) {
        List<String> names = new ArrayList<>();
        for (Class<?> p : parameters) {
            names.add(p.toString());
        }
        return String.join(",", names);
    }
}
