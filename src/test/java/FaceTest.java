import java.lang.reflect.Constructor;
import java.lang.reflect.Field;
import java.lang.reflect.Method;
import java.lang.reflect.Modifier;
import java.util.Arrays;
import java.util.Set;
import java.util.TreeSet;

/** The public face, and what ../shared/LANGUAGE.md says of members. */
public final class FaceTest {
    private static final String[] FACE = {
        "feed 5", "court 1 I", "law 1 I", "work 1 I", "book 1 I", "fault 0", "undo 0", "told 1 I", "heir 2 NI", "two 2 NI",
        "keeper 2 NI", "cloud 1 N", "would 9 I", "rank 1 I", "ahead 2 I", "clouds 1 N", "wipes 1 N", "gasp 1 N", "way 2 N",
        "hush 2 NI", "still 0", "seats 0", "seat 1 I", "fits 2 NI", "look 2 NI", "lots 4 I", "regents 3 I", "moss 3 NI",
        "backward 1 I", "greenest 1 I", "ear 1 N", "stalest 1 I", "coughs 2 NI", "twins 1 I", "sunny 0", "gossip 1 I",
        "year 3 I", "span 4 I", "image 0", "restore 0", "status 1", "count 1"
    };

    public static void main(String[] args) {
        Set<String> got = new TreeSet<>();
        Set<String> names = new TreeSet<>();
        for (Method m : FernHeirs.class.getDeclaredMethods()) {
            if (Modifier.isPublic(m.getModifiers())) {
                got.add(written(m));
                names.add(m.getName());
                Due.same("answers of " + m, m.getReturnType() == int.class && !Modifier.isStatic(m.getModifiers()) ? 1 : 0, 1);
            }
        }
        Due.same("the face " + got, got.equals(new TreeSet<>(Arrays.asList(FACE))) ? 1 : 0, 1);
        hidden(FernHeirs.class, names);
        for (Class<?> inside : FernHeirs.class.getDeclaredClasses()) {
            Due.same(inside + " is static", Modifier.isStatic(inside.getModifiers()) ? 1 : 0, 1);
            Due.same(inside + " is not public", inside.getModifiers() & (Modifier.PUBLIC | Modifier.PROTECTED), 0);
            names(inside, names);
        }
        Due.same("final", FernHeirs.class.getModifiers() & Modifier.FINAL, Modifier.FINAL);
        Due.same("NONE", FernHeirs.NONE, -1);
        Due.end();
    }

    private static String written(Method m) {
        StringBuilder all = new StringBuilder(m.getName() + " " + m.getParameterCount());
        for (Class<?> thrown : m.getExceptionTypes()) {
            all.append(all.length() == m.getName().length() + 2 ? " " : "").append(thrown.getSimpleName().charAt(0));
        }
        return all.toString();
    }

    /** Nothing but the face is seen from outside. */
    private static void hidden(Class<?> of, Set<String> names) {
        for (Field f : of.getDeclaredFields()) {
            boolean open = !Modifier.isPrivate(f.getModifiers()) && !f.isSynthetic();
            Due.same("field " + f, open && !f.getName().equals("NONE") ? 1 : 0, 0);
        }
        for (Constructor<?> c : of.getDeclaredConstructors()) {
            Due.same("constructor " + c, c.getParameterCount(), 0);
        }
        for (Method m : of.getDeclaredMethods()) {
            boolean open = Modifier.isPublic(m.getModifiers());
            Due.same("method " + m, open || Modifier.isPrivate(m.getModifiers()) ? 1 : 0, 1);
            Due.same("method " + m + " bears a public name", !open && names.contains(m.getName()) ? 1 : 0, 0);
        }
    }

    private static void names(Class<?> of, Set<String> names) {
        for (Method m : of.getDeclaredMethods()) {
            boolean hidden = Modifier.isPrivate(m.getModifiers());
            Due.same("method " + m + " bears a public name", hidden && names.contains(m.getName()) ? 1 : 0, 0);
            Due.same("parameters of " + m, m.getParameterCount() > 7 ? 1 : 0, 0);
        }
    }
}
