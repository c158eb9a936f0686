import java.lang.reflect.Constructor;
import java.lang.reflect.Field;
import java.lang.reflect.Method;
import java.lang.reflect.Modifier;
import java.util.Set;
import java.util.TreeSet;

/** The class has the document's public face and no more. */
public final class FaceTest {
    private static final Set<String> FACE = Set.of(
        "int NONE = -1", "int FULL = -2", "int PLAIN = 0", "int CHOICE = 1", "int BAN = 2",
        "StableModels()",
        "int add(int,int,int,int)", "boolean remove(int)", "int rules()", "int support(int)",
        "boolean stable(int)", "int models()", "int model(int)", "int brave()", "int cautious()",
        "int find(int,int)", "int fewest()", "int maximal()", "boolean matters(int)");

    private static int wrong = 0;

    private static void fault(String what) {
        wrong++;
        System.out.println(what);
    }

    private static String parameters(Class<?>[] types) {
        StringBuilder text = new StringBuilder("(");
        for (int i = 0; i < types.length; i++) {
            text.append(i == 0 ? "" : ",").append(types[i].getSimpleName());
        }
        return text.append(")").toString();
    }

    private static void fields(Set<String> face) throws IllegalAccessException {
        for (Field field : StableModels.class.getDeclaredFields()) {
            int modifiers = field.getModifiers();
            if (Modifier.isPublic(modifiers) && Modifier.isStatic(modifiers) && Modifier.isFinal(modifiers)) {
                face.add(field.getType().getSimpleName() + " " + field.getName() + " = " + field.get(null));
            } else if (!Modifier.isPrivate(modifiers)) {
                fault("field that is neither a constant nor private: " + field);
            }
            if (Modifier.isStatic(modifiers) && (!Modifier.isFinal(modifiers) || field.getType().isArray())) {
                fault("static field that is no constant: " + field);
            }
        }
    }

    private static void methods(Set<String> face) {
        Set<String> open = new TreeSet<>();
        Set<String> hidden = new TreeSet<>();
        for (Method method : StableModels.class.getDeclaredMethods()) {
            int modifiers = method.getModifiers();
            if (Modifier.isPublic(modifiers)) {
                open.add(method.getName());
                String kind = Modifier.isStatic(modifiers) ? "static " : "";
                face.add(kind + method.getReturnType().getSimpleName() + " " + method.getName()
                    + parameters(method.getParameterTypes()));
            } else if (Modifier.isPrivate(modifiers)) {
                hidden.add(method.getName());
            } else {
                fault("method that is neither public nor private: " + method);
            }
        }
        hidden.retainAll(open);
        for (String name : hidden) {
            fault("private method with the name of a public one: " + name);
        }
    }

    private static void face() throws IllegalAccessException {
        Set<String> face = new TreeSet<>();
        fields(face);
        methods(face);
        for (Constructor<?> made : StableModels.class.getDeclaredConstructors()) {
            face.add((Modifier.isPublic(made.getModifiers()) ? "" : "hidden ")
                + made.getName() + parameters(made.getParameterTypes()));
        }
        if (!face.equals(FACE)) {
            fault("the face is " + face + ", due is " + new TreeSet<>(FACE));
        }
        if (!Modifier.isPublic(StableModels.class.getModifiers()) || !Modifier.isFinal(StableModels.class.getModifiers())) {
            fault("the class is not public and final");
        }
        if (StableModels.class.getDeclaredClasses().length != 0 || StableModels.class.getInterfaces().length != 0) {
            fault("the class has nested classes or interfaces");
        }
    }

    public static void main(String[] args) throws IllegalAccessException {
        face();
        System.out.println(wrong == 0 ? "the face is as due" : wrong + " faults");
        if (wrong != 0) {
            System.exit(1);
        }
    }
}
