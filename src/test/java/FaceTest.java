import java.lang.reflect.Constructor;
import java.lang.reflect.Field;
import java.lang.reflect.Method;
import java.lang.reflect.Modifier;
import java.util.Set;
import java.util.TreeSet;

/** The public face: what the document names, and nothing beside it. */
public final class FaceTest {
    private static final Set<String> METHODS = Set.of(
        "int feed(int,int,int,int,int)", "void end(int)", "int alter(int,int)", "int turn()",
        "int open(int)", "int told(int)", "int out(int)", "int pack(int)", "int sum(int)",
        "int least()", "int length(int)", "int turning(int)", "int count(int)");

    public static void main(String[] args) {
        Class<?> face = PlainPacks.class;
        Check.due("public and final", face.getModifiers(), Modifier.PUBLIC | Modifier.FINAL);
        Check.due("NONE", PlainPacks.NONE, -1);
        Set<String> found = new TreeSet<>();
        Set<String> names = new TreeSet<>();
        for (Method m : face.getDeclaredMethods()) {
            if (Modifier.isPublic(m.getModifiers())) {
                found.add(described(m));
                names.add(m.getName());
            }
        }
        Check.due("the methods", found.equals(METHODS) ? 1 : 0, 1);
        for (Method m : face.getDeclaredMethods()) {
            boolean open = Modifier.isPublic(m.getModifiers());
            Check.due(m + " is private", Modifier.isPrivate(m.getModifiers()) ? 1 : 0, open ? 0 : 1);
            Check.due(m + " bears its own name", !open && names.contains(m.getName()) ? 1 : 0, 0);
        }
        for (Field f : face.getDeclaredFields()) {
            boolean none = f.getName().equals("NONE");
            Check.due(f + " is private", Modifier.isPrivate(f.getModifiers()) ? 1 : 0, none ? 0 : 1);
        }
        for (Constructor<?> c : face.getDeclaredConstructors()) {
            Check.due(c + " takes", c.getParameterCount(), 0);
        }
        for (Class<?> inside : face.getDeclaredClasses()) {
            Check.due(inside + " is static", Modifier.isStatic(inside.getModifiers()) ? 1 : 0, 1);
        }
        Check.finish("FaceTest");
    }

    private static String described(Method m) {
        StringBuilder s = new StringBuilder(m.getReturnType().getName());
        s.append(' ').append(m.getName()).append('(');
        for (Class<?> p : m.getParameterTypes()) {
            s.append(s.charAt(s.length() - 1) == '(' ? "" : ",").append(p.getName());
        }
        return s.append(')').toString();
    }
}
