import java.lang.reflect.Field;
import java.lang.reflect.Method;
import java.lang.reflect.Modifier;
import java.util.Set;
import java.util.TreeSet;

/** The public face, by LANGUAGE.md's rules 1 and 5: what can be seen of the class from outside. */
public final class FaceTest {
    private static final Set<String> FACE = Set.of(
        "int field(int,int,boolean)", "int ready()", "boolean begin()", "boolean open(int)",
        "boolean leaf(int,int)", "boolean close()", "boolean drop()", "int records()",
        "int level(int,int)", "int entries(int)", "int entry(int,int,int)",
        "int assemble(int,int,int)", "int event(int,int)");

    public static void main(String[] args) throws ReflectiveOperationException {
        Check.due("the class is public and final", Striping.class.getModifiers(), Modifier.PUBLIC | Modifier.FINAL);
        Check.due("constructors", Striping.class.getDeclaredConstructors().length, 1);
        Check.due("the constructor is public", Striping.class.getDeclaredConstructor().getModifiers(), Modifier.PUBLIC);
        Set<String> names = lookAtMethods();
        lookAtFields(Striping.class);
        for (Class<?> inside : Striping.class.getDeclaredClasses()) {
            Check.due(inside + " is static", Modifier.isStatic(inside.getModifiers()), true);
            lookAtFields(inside);
            for (Method m : inside.getDeclaredMethods()) {
                Check.due(m + " has a name of the face", names.contains(m.getName()), false);
            }
        }
        Check.end();
    }

    private static Set<String> lookAtMethods() {
        Set<String> found = new TreeSet<>();
        Set<String> names = new TreeSet<>();
        for (Method m : Striping.class.getDeclaredMethods()) {
            if (!Modifier.isPrivate(m.getModifiers())) {
                Check.due(m + " is public and no more", m.getModifiers(), Modifier.PUBLIC);
                found.add(signature(m));
                names.add(m.getName());
            }
        }
        Check.due("the face's methods", found.equals(FACE), true);
        for (Method m : Striping.class.getDeclaredMethods()) {
            if (Modifier.isPrivate(m.getModifiers())) {
                Check.due(m + " has a name of the face", names.contains(m.getName()), false);
            }
        }
        return names;
    }

    private static String signature(Method m) {
        StringBuilder text = new StringBuilder();
        for (Class<?> p : m.getParameterTypes()) {
            text.append(text.length() == 0 ? "" : ",").append(p.getName());
        }
        return m.getReturnType().getName() + " " + m.getName() + "(" + text + ")";
    }

    private static void lookAtFields(Class<?> c) {
        for (Field f : c.getDeclaredFields()) {
            int m = f.getModifiers();
            boolean face = c == Striping.class && f.getName().equals("NONE");
            Check.due(f + " is private", Modifier.isPrivate(m), !face);
            Check.due(f + ", if static, is final", Modifier.isStatic(m) && !Modifier.isFinal(m), false);
        }
    }
}
