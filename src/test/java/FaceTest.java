import java.lang.reflect.Constructor;
import java.lang.reflect.Field;
import java.lang.reflect.Method;
import java.lang.reflect.Modifier;
import java.util.Set;
import java.util.TreeSet;

/** The public face is the document's and nothing more. */
public final class FaceTest {
    private static final Check CHECK = new Check();
    private static final String[] FACE = {
        "int type(long,int)", "int clear()", "int tell()", "int question()", "long worlds(int,int)",
        "int cost(int,int)", "int measure(int)", "int apart(int,int)", "int burden(int,int)",
        "long merged(int)", "int value(int,int)", "int held(int)", "long changed(int,int)",
        "int quarrels(int)", "int sets(int,int)", "int free()", "int share(int,int)",
        "int lie(int,int,int)", "int worth(int,int)", "int count(int)", "long trace()"
    };

    public static void main(String[] args) {
        Class<?> face = SayingsMerged.class;
        CHECK.due("public and final", face.getModifiers() & (Modifier.PUBLIC | Modifier.FINAL), Modifier.PUBLIC | Modifier.FINAL);
        methods(face);
        fields(face);
        constructors(face);
        for (Class<?> inside : face.getDeclaredClasses()) {
            CHECK.due("static: " + inside.getName(), Modifier.isStatic(inside.getModifiers()) ? 1 : 0, 1);
            CHECK.due("not public: " + inside.getName(), Modifier.isPublic(inside.getModifiers()) ? 1 : 0, 0);
            namesOfOthers(inside);
        }
        CHECK.end("FaceTest");
    }

    private static Set<String> faceNames() {
        Set<String> names = new TreeSet<>();
        for (String m : FACE) names.add(m.substring(m.indexOf(' ') + 1, m.indexOf('(')));
        return names;
    }

    private static void methods(Class<?> face) {
        Set<String> found = new TreeSet<>();
        for (Method m : face.getDeclaredMethods()) {
            if (m.isSynthetic()) continue;
            if (Modifier.isPrivate(m.getModifiers())) {
                CHECK.due("a private one named as a public one: " + m, faceNames().contains(m.getName()) ? 1 : 0, 0);
                continue;
            }
            StringBuilder s = new StringBuilder(m.getReturnType() + " " + m.getName() + "(");
            for (Class<?> p : m.getParameterTypes()) s.append(s.charAt(s.length() - 1) == '(' ? "" : ",").append(p);
            found.add(s.append(")").toString());
            CHECK.due("public, not static: " + m, m.getModifiers(), Modifier.PUBLIC);
        }
        CHECK.due("methods " + found, found.equals(Set.of(FACE)) ? 1 : 0, 1);
    }

    private static void namesOfOthers(Class<?> inside) {
        for (Method m : inside.getDeclaredMethods()) {
            CHECK.due("named as a public one: " + m, faceNames().contains(m.getName()) ? 1 : 0, 0);
        }
    }

    private static void fields(Class<?> face) {
        int open = 0;
        for (Field f : face.getDeclaredFields()) {
            if (!Modifier.isPrivate(f.getModifiers())) open++;
        }
        CHECK.due("constants that can be seen", open, 3);
        CHECK.due("BAD", SayingsMerged.BAD, -1);
        CHECK.due("FULL", SayingsMerged.FULL, -3);
        CHECK.due("NONE", SayingsMerged.NONE, -9);
    }

    private static void constructors(Class<?> face) {
        Constructor<?>[] all = face.getDeclaredConstructors();
        CHECK.due("constructors", all.length, 1);
        CHECK.due("its parameters", all[0].getParameterCount(), 0);
        CHECK.due("public", all[0].getModifiers(), Modifier.PUBLIC);
    }
}
