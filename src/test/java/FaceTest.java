import java.lang.reflect.Constructor;
import java.lang.reflect.Field;
import java.lang.reflect.Method;
import java.lang.reflect.Modifier;
import java.util.ArrayList;
import java.util.HashSet;
import java.util.List;
import java.util.Set;
import java.util.TreeSet;

/** The class's face is the document's, no more and no less, and its parts keep to LANGUAGE.md. */
public final class FaceTest {
    private static final String FACE = """
        int office(int, int, int, int)
        boolean clock(int, int, int)
        boolean feast(int, int, boolean)
        int know(int, int, int)
        int sheet(int, int, int, int, int)
        int set(int, int)
        int open(int, int)
        int overlap(int, int, int)
        int loses(int, int, int)
        int dark(int, int)
        int piece(int, int, int, int, int)
        int sign(int)
        boolean end(int)
        int rule()
        int value(int, int) throws NoSuchElementException
        boolean begin(int)
        int go(int)
        int of(int, int) throws NoSuchElementException
        int hand(int, int)
        int ends()
        int judge()
        int one(int, int, int)
        int cheap(int, int, int, int)
        int edge(int, int, int)
        int lie(int, int)
        int homes(int, int)
        int pair(int, int, int)
        int whom(int, int)
        int worth(int)
        int wrong(int)
        int mean(int)
        int riskiest()
        int site(int, int, int, int)
        int together(int, int)
        int sleeps(int, int)
        int worst(int, int, int)
        int march(int, int)
        boolean keep(int)
        boolean again(int)
        int count(int)
        long row(int) throws NoSuchElementException
        """;
    private static final int MOST_CLASSES = 12;
    private static final int MOST_FIELDS = 20;
    private static final int MOST_PARAMETERS = 7;

    private int wrong = 0;

    public static void main(String[] args) {
        FaceTest test = new FaceTest();
        test.face();
        List<Class<?>> all = new ArrayList<>();
        all.add(FollowTheSun.class);
        all.addAll(List.of(FollowTheSun.class.getDeclaredClasses()));
        test.due("at most " + MOST_CLASSES + " classes", all.size() <= MOST_CLASSES);
        for (Class<?> c : all) {
            test.parts(c);
        }
        System.out.println(test.wrong == 0 ? "the face is the document's" : test.wrong + " faults of the face");
        if (test.wrong != 0) {
            System.exit(1);
        }
    }

    private void due(String what, boolean holds) {
        if (!holds) {
            wrong++;
            System.out.println("does not hold: " + what);
        }
    }

    private void face() {
        Class<?> c = FollowTheSun.class;
        due("public and final", Modifier.isPublic(c.getModifiers()) && Modifier.isFinal(c.getModifiers()));
        due("no class above it", c.getSuperclass() == Object.class && c.getInterfaces().length == 0);
        Set<String> wanted = new TreeSet<>(FACE.lines().toList());
        Set<String> found = new TreeSet<>();
        for (Method m : c.getDeclaredMethods()) {
            if (!Modifier.isPrivate(m.getModifiers())) {
                due(m.getName() + " is public, not static", m.getModifiers() == Modifier.PUBLIC);
                found.add(told(m));
            }
        }
        due("methods " + wanted + ", found were " + found, found.equals(wanted));
        Constructor<?>[] made = c.getDeclaredConstructors();
        due("one constructor", made.length == 1 && made[0].getParameterCount() == 0
            && made[0].getModifiers() == Modifier.PUBLIC);
        for (Field f : c.getDeclaredFields()) {
            boolean told = f.getName().equals("NONE");
            due(f.getName() + " is private, or NONE", told || Modifier.isPrivate(f.getModifiers()));
        }
        due("NONE is -1", FollowTheSun.NONE == -1);
        for (Class<?> inside : c.getDeclaredClasses()) {
            int m = inside.getModifiers();
            due(inside.getName() + " is static, and not seen from outside",
                Modifier.isStatic(m) && !Modifier.isPublic(m) && !Modifier.isProtected(m));
        }
    }

    private static String told(Method m) {
        StringBuilder all = new StringBuilder(m.getReturnType() + " " + m.getName() + "(");
        for (Class<?> p : m.getParameterTypes()) {
            all.append(all.charAt(all.length() - 1) == '(' ? "" : ", ").append(p);
        }
        all.append(")");
        for (Class<?> e : m.getExceptionTypes()) {
            all.append(" throws ").append(e.getSimpleName());
        }
        return all.toString();
    }

    private void parts(Class<?> c) {
        Set<String> face = new HashSet<>();
        for (Method m : FollowTheSun.class.getMethods()) {
            face.add(m.getName());
        }
        for (Method m : c.getDeclaredMethods()) {
            due(m + " has few parameters", m.getParameterCount() <= MOST_PARAMETERS);
            due(m + " is written out", !m.isSynthetic());
            boolean ofTheFace = c == FollowTheSun.class && Modifier.isPublic(m.getModifiers());
            due(m + " bears no name of the face", ofTheFace || !face.contains(m.getName()));
        }
        int fields = 0;
        for (Field f : c.getDeclaredFields()) {
            boolean isStatic = Modifier.isStatic(f.getModifiers());
            due(f + " is final", !isStatic || Modifier.isFinal(f.getModifiers()));
            fields += isStatic ? 0 : 1;
        }
        due(c + " has few fields", fields <= MOST_FIELDS);
    }
}
