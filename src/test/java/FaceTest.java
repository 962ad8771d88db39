import java.lang.reflect.Constructor;
import java.lang.reflect.Field;
import java.lang.reflect.Method;
import java.lang.reflect.Modifier;
import java.util.HashSet;
import java.util.Set;
import java.util.TreeSet;

/** The class shows the document's public face and nothing else (LANGUAGE.md, rules 1, 2 and 5). */
public final class FaceTest {
    private static final String[] FACE = {
        "int write(int,int)", "int again(int,int)", "int change(int,int)", "int cut(int)",
        "int extend(int)", "boolean copy(int,int)", "int count(int)", "int where(int,int)",
        "int distinct(int)", "int longest(int)", "int tail(int,int)", "boolean agree(int,int)",
        "int piece(int)", "int common(int,int)", "int repeats(int)", "int unique(int)",
        "BAD", "FULL", "SuffixWorkbench()",
    };

    public static void main(String[] args) {
        Due due = new Due("FaceTest");
        Class<?> face = SuffixWorkbench.class;
        due.is("BAD", SuffixWorkbench.BAD, -1);
        due.is("FULL", SuffixWorkbench.FULL, -2);
        due.is("public and final", face.getModifiers(), Modifier.PUBLIC | Modifier.FINAL);
        due.is("nested classes", face.getDeclaredClasses().length, 0);
        due.is("superclass is Object", face.getSuperclass() == Object.class, true);
        due.is("interfaces", face.getInterfaces().length, 0);

        Set<String> shown = new TreeSet<>();
        Set<String> publicNames = new HashSet<>();
        Set<String> privateNames = new HashSet<>();
        for (Method method : face.getDeclaredMethods()) {
            boolean hidden = Modifier.isPrivate(method.getModifiers());
            (hidden ? privateNames : publicNames).add(method.getName());
            if (!hidden) {
                due.is(method + " is public alone", method.getModifiers(), Modifier.PUBLIC);
                shown.add(method.getReturnType() + " " + method.getName()
                        + parameters(method.getParameterTypes()));
            }
        }
        for (Constructor<?> constructor : face.getDeclaredConstructors()) {
            shown.add("SuffixWorkbench" + parameters(constructor.getParameterTypes()));
            due.is(constructor + " is public", constructor.getModifiers(), Modifier.PUBLIC);
        }
        for (Field field : face.getDeclaredFields()) {
            checkField(due, field);
            if (!Modifier.isPrivate(field.getModifiers())) {
                shown.add(field.getName());
            }
        }
        Set<String> want = new TreeSet<>(Set.of(FACE));
        due.is("the public face " + shown + " is " + want, shown.equals(want), true);
        privateNames.retainAll(publicNames);
        due.is("private methods with public names " + privateNames, privateNames.size(), 0);
        due.end();
    }

    private static void checkField(Due due, Field field) {
        Class<?> type = field.getType();
        Class<?> kind = type.isArray() ? type.getComponentType() : type;
        boolean plain = kind.isPrimitive() && kind != float.class && kind != double.class;
        due.is(field + " is of a plain type", plain, true);
        if (Modifier.isStatic(field.getModifiers())) {
            due.is(field + " is final", Modifier.isFinal(field.getModifiers()), true);
            due.is(field + " is int or long", type == int.class || type == long.class, true);
        }
    }

    private static String parameters(Class<?>[] types) {
        StringBuilder list = new StringBuilder("(");
        for (Class<?> type : types) {
            list.append(list.length() == 1 ? "" : ",").append(type);
        }
        return list.append(")").toString();
    }
}
