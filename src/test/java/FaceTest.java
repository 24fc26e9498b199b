import java.lang.reflect.Constructor;
import java.lang.reflect.Field;
import java.lang.reflect.Method;
import java.lang.reflect.Modifier;
import java.util.Arrays;
import java.util.List;
import java.util.Set;
import java.util.TreeSet;

/** The class shows just the document's face, and nothing more. */
public final class FaceTest {
    private static final Due due = new Due();

    private static final List<String> FACE = List.of(
        "int town(int)", "int person(int,int)", "int band(int,int)", "int comes(int)", "int ties(int,int,int)",
        "int goes(int,int)", "int cold(int)", "int years(int)", "int cuts(int)", "int mayGo(int,int)", "int rest(int)",
        "int placeIn(int,int)", "int snappedIn(int)", "int still()", "int firstSnap(int)", "int christmas(int)",
        "int order(int)", "int letGo(int,int)", "int crossing(int)", "int untangle()", "int clans(int)",
        "int cousins(int,int)", "int bridges()", "int renew(int,int)", "int frost(int)", "int lurch(int,int)",
        "int gauges(int,int,int)", "int two(int,int)", "long night(int,int,int,int)", "long mean(int)",
        "int farthest(int)", "int forged(int)", "int judge(int)", "int generations(int,int,int)", "int image()",
        "int restore()", "int count(int)", "int keep(int,int,int,int)", "int row(int,int,int)", "int put(int,int,int)",
        "long element(int,int)", "int copy(int,int,int,int,int)", "int cost(int)", "int toss(int)");

    public static void main(String[] args) throws Exception {
        Class<?> face = RubberBandsHoldFamilies.class;
        due.holds("public and final", Modifier.isPublic(face.getModifiers()) && Modifier.isFinal(face.getModifiers()));
        due.holds("no package", face.getPackageName().isEmpty());
        due.holds("nothing above it", face.getSuperclass() == Object.class && face.getInterfaces().length == 0);
        Set<String> shown = new TreeSet<>();
        Set<String> names = new TreeSet<>();
        for (Method m : face.getDeclaredMethods()) {
            if (Modifier.isPublic(m.getModifiers())) {
                shown.add(told(m));
                names.add(m.getName());
                due.holds(m + " is no static one", !Modifier.isStatic(m.getModifiers()));
            }
        }
        due.holds("just the face: " + shown, shown.equals(new TreeSet<>(FACE)));
        for (Method m : face.getDeclaredMethods()) {
            if (!Modifier.isPublic(m.getModifiers())) {
                due.holds(m + " is private", Modifier.isPrivate(m.getModifiers()));
                due.holds(m + " bears no name of the face", !names.contains(m.getName()));
            }
        }
        for (Field f : face.getDeclaredFields()) {
            due.holds(f + " is private", Modifier.isPrivate(f.getModifiers()));
        }
        Constructor<?>[] made = face.getDeclaredConstructors();
        due.holds("one public constructor", made.length == 1 && made[0].getParameterCount() == 0
            && Modifier.isPublic(made[0].getModifiers()) && made[0].getExceptionTypes().length == 0);
        List<Class<?>> thrown = Arrays.asList(face.getMethod("element", int.class, int.class).getExceptionTypes());
        due.holds("what element throws", thrown.size() == 2 && thrown.contains(IllegalArgumentException.class)
            && thrown.contains(IllegalStateException.class));
        inner(face, names);
        due.end("FaceTest");
    }

    private static String told(Method m) {
        StringBuilder s = new StringBuilder();
        s.append(m.getReturnType().getName()).append(' ').append(m.getName()).append('(');
        for (Class<?> p : m.getParameterTypes()) {
            s.append(s.charAt(s.length() - 1) == '(' ? "" : ",").append(p.getName());
        }
        return s.append(')').toString();
    }

    private static void inner(Class<?> face, Set<String> names) {
        int classes = 1;
        for (Class<?> c : face.getDeclaredClasses()) {
            classes++;
            due.holds(c + " is private and static", Modifier.isPrivate(c.getModifiers()) && Modifier.isStatic(c.getModifiers()));
            int fields = 0;
            for (Field f : c.getDeclaredFields()) {
                boolean constant = Modifier.isStatic(f.getModifiers());
                due.holds(f + " is final if static", !constant || Modifier.isFinal(f.getModifiers()));
                fields += constant ? 0 : 1;
            }
            due.holds(c + " has twenty fields at most", fields <= 20);
            for (Method m : c.getDeclaredMethods()) {
                due.holds(m + " takes seven at most", m.getParameterCount() <= 7);
                due.holds(m + " bears no name of the face", !Modifier.isPrivate(m.getModifiers()) || !names.contains(m.getName()));
            }
        }
        due.holds("twelve classes at most", classes <= 12);
    }
}
