import java.lang.reflect.Constructor;
import java.lang.reflect.Field;
import java.lang.reflect.Member;
import java.lang.reflect.Method;
import java.lang.reflect.Modifier;
import java.util.Arrays;
import java.util.Set;
import java.util.TreeSet;

/** The face is the document's and no more. */
public final class FaceTest {
    private static final String[] FACE = {"feed(long,long,long)int", "orchard()int", "days()int",
        "apple(int,int)int", "near(int,int,int)int", "says(int,int)int", "falls(int,int)int", "call(int,int)int",
        "pick(int)int", "christen(int,int)boolean", "pass(int)int", "undo()boolean", "judged(int)int",
        "crop(int,int)int", "fetch()int", "lies(int,boolean)boolean", "called(int)int",
        "tell(int,int,boolean)boolean", "laws(int)int", "loss(int)int", "best(int,int)int",
        "thief(int,int,int)int", "hide(int,int)int", "banns(int,int,int)int", "years(int,int,int)int",
        "mark(int,boolean)boolean", "count(int)int"};

    private FaceTest() {
    }

    private static String list(Class<?>[] types) {
        StringBuilder s = new StringBuilder("(");
        for (Class<?> type : types) {
            s.append(s.length() > 1 ? "," : "").append(type.getName());
        }
        return s.append(')').toString();
    }

    private static boolean isPrivate(Member m) {
        return Modifier.isPrivate(m.getModifiers()) || m.isSynthetic();
    }

    public static void main(String[] args) {
        Class<?> c = NameOrchard.class;
        Due.yes("public and final", Modifier.isPublic(c.getModifiers()) && Modifier.isFinal(c.getModifiers()));
        Set<String> got = new TreeSet<>();
        for (Method m : c.getDeclaredMethods()) {
            if (!isPrivate(m)) {
                Due.yes("public, not static: " + m, Modifier.isPublic(m.getModifiers())
                        && !Modifier.isStatic(m.getModifiers()));
                got.add(m.getName() + list(m.getParameterTypes()) + m.getReturnType().getName());
                Due.same("exceptions of " + m, m.getExceptionTypes().length, m.getName().equals("thief") ? 1 : 0);
            }
        }
        Set<String> want = new TreeSet<>(Arrays.asList(FACE));
        if (!got.equals(want)) {
            System.out.println("the methods are " + got);
        }
        Due.yes("the methods", got.equals(want));
        for (Constructor<?> k : c.getDeclaredConstructors()) {
            Due.yes("one constructor", Modifier.isPublic(k.getModifiers()) && k.getParameterCount() == 0);
        }
        for (Field f : c.getDeclaredFields()) {
            Due.yes("a private field, or NONE: " + f, isPrivate(f) || f.getName().equals("NONE")
                    && Modifier.isStatic(f.getModifiers()) && Modifier.isFinal(f.getModifiers()));
        }
        for (Class<?> inner : c.getDeclaredClasses()) {
            Due.yes("not public: " + inner, !Modifier.isPublic(inner.getModifiers())
                    && !Modifier.isProtected(inner.getModifiers()) && Modifier.isStatic(inner.getModifiers()));
            for (Method m : inner.getDeclaredMethods()) {
                for (String face : FACE) {
                    Due.no("a name of the face: " + m, face.startsWith(m.getName() + "("));
                }
            }
        }
        Due.end();
    }
}
