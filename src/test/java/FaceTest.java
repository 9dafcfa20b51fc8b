import java.lang.reflect.Field;
import java.lang.reflect.Member;
import java.lang.reflect.Method;
import java.lang.reflect.Modifier;
import java.util.HashSet;
import java.util.Set;
import java.util.TreeSet;

/** The public face is the document's and nothing more, and the rules of LANGUAGE.md that reflection can see hold. */
public final class FaceTest {
    private static final String FACE = String.join("\n", new TreeSet<>(Set.of(
        "int append(int,int)", "int drop(int)", "boolean change(int,int,int)", "void swap()", "int length(int)",
        "int common()", "int commonUpTo(int,int)", "int commonFrom(int,int)", "int oldAt(int)", "int newAt(int)",
        "int steps()", "int step(int)", "int stepSymbol(int)", "boolean possible(int,int)", "boolean contained(int)",
        "int distance()", "int NONE = -1", "int FULL = -2", "int KEEP = 0", "int TAKE = 1", "int PUT = 2")));

    public static void main(String[] args) throws Exception {
        Class<?> c = ThresholdDiff.class;
        Check.due("class is public final", c.getModifiers(), Modifier.PUBLIC | Modifier.FINAL);
        Check.due("nested classes", c.getDeclaredClasses().length, 0);
        Check.due("constructors", c.getDeclaredConstructors().length, 1);
        Check.due("the constructor is public", c.getDeclaredConstructors()[0].getModifiers(), Modifier.PUBLIC);
        Check.due("its parameters", c.getDeclaredConstructors()[0].getParameterCount(), 0);
        TreeSet<String> face = new TreeSet<>();
        methods(c, face);
        fields(c, face);
        String got = String.join("\n", face);
        Check.due("the face is the document's:\n" + got + "\n", got.equals(FACE), true);
        Check.finish();
    }

    private static void methods(Class<?> c, Set<String> face) {
        Set<String> publicNames = new HashSet<>();
        for (Method m : c.getDeclaredMethods()) {
            publicOrPrivate(m);
            if (Modifier.isPublic(m.getModifiers())) {
                publicNames.add(m.getName());
                face.add(m.getReturnType() + " " + m.getName() + parameters(m));
            }
        }
        for (Method m : c.getDeclaredMethods()) {
            if (!Modifier.isPublic(m.getModifiers())) {
                Check.due("private " + m.getName() + " bears a public name", publicNames.contains(m.getName()), false);
            }
            Check.due(m.getName() + " has at most 7 parameters", m.getParameterCount() <= 7, true);
        }
    }

    private static void fields(Class<?> c, Set<String> face) throws IllegalAccessException {
        for (Field f : c.getDeclaredFields()) {
            publicOrPrivate(f);
            int mods = f.getModifiers();
            if (Modifier.isStatic(mods)) {
                boolean constant = Modifier.isFinal(mods) && (f.getType() == int.class || f.getType() == long.class);
                Check.due("static " + f.getName() + " is a whole-number constant", constant, true);
            }
            if (Modifier.isPublic(mods)) {
                face.add(f.getType() + " " + f.getName() + " = " + f.getInt(null));
            }
        }
    }

    private static void publicOrPrivate(Member m) {
        int mods = m.getModifiers();
        Check.due(m.getName() + " is public or private", Modifier.isPublic(mods) || Modifier.isPrivate(mods), true);
    }

    private static String parameters(Method m) {
        StringBuilder list = new StringBuilder("(");
        for (Class<?> p : m.getParameterTypes()) {
            list.append(list.length() > 1 ? "," : "").append(p);
        }
        return list.append(")").toString();
    }
}
