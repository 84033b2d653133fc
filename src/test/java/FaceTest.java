import java.lang.reflect.Constructor;
import java.lang.reflect.Method;
import java.lang.reflect.Modifier;
import java.util.TreeSet;

/** The public face: just the members that the document lists, with what they throw. */
public final class FaceTest {
    private static final String[] FACE = {
        "int addWalker(int, int, int) throws IllegalArgumentException, IllegalStateException",
        "boolean turnMember(int) throws IndexOutOfBoundsException",
        "int setNet(int, int) throws IndexOutOfBoundsException, IllegalArgumentException",
        "int rest(int) throws IndexOutOfBoundsException",
        "int setRate(int) throws IllegalArgumentException",
        "int reinsure(int, int) throws IllegalArgumentException",
        "int pass(int) throws IllegalArgumentException",
        "int hour()", "int sun()", "boolean isNoon()", "int hoursUntilNoon()", "int walkers()", "int members()",
        "boolean isMember(int) throws IndexOutOfBoundsException",
        "int netOf(int) throws IndexOutOfBoundsException",
        "int wobbleOf(int) throws IndexOutOfBoundsException",
        "int fallsOf(int) throws IndexOutOfBoundsException",
        "int shadowOf(int) throws IndexOutOfBoundsException",
        "int longestShadow()",
        "int costOf(int) throws IndexOutOfBoundsException",
        "int ownPartOf(int) throws IndexOutOfBoundsException",
        "int poolPartOf(int) throws IndexOutOfBoundsException",
        "int reinsuredPartOf(int) throws IndexOutOfBoundsException",
        "int fund()", "int rate()", "int retention()", "int limit()", "int reinsurersLoss()",
        "int hoursUntilFall(int) throws IndexOutOfBoundsException",
        "int nextToFall()",
        "int fundIn(int) throws IllegalArgumentException",
        "int hoursUntilRuin()", "int bestLimit()", "int fairRate()", "double meanShadow()", "long digest()",
    };

    public static void main(String[] args) {
        Check c = new Check();
        TreeSet<String> want = new TreeSet<>(java.util.List.of(FACE));
        TreeSet<String> got = new TreeSet<>();
        for (Method m : ShadowPool.class.getDeclaredMethods()) {
            if (!Modifier.isPrivate(m.getModifiers())) {
                c.due(m.getName() + " is public and no static one", m.getModifiers(), Modifier.PUBLIC);
                got.add(header(m));
            }
        }
        c.dueText("the methods of the face", String.join("\n  ", got), String.join("\n  ", want));
        Constructor<?>[] made = ShadowPool.class.getDeclaredConstructors();
        c.due("constructors", made.length, 1);
        c.due("the constructor is public", made[0].getModifiers(), Modifier.PUBLIC);
        c.due("its parameters", made[0].getParameterCount(), 0);
        c.due("the class is public and final", ShadowPool.class.getModifiers(), Modifier.PUBLIC | Modifier.FINAL);
        for (java.lang.reflect.Field f : ShadowPool.class.getDeclaredFields()) {
            c.due(f.getName() + " is private", Modifier.isPrivate(f.getModifiers()), true);
        }
        c.end();
    }

    private static String header(Method m) {
        String text = m.getReturnType().getName() + " " + m.getName() + "(" + names(m.getParameterTypes(), false) + ")";
        return m.getExceptionTypes().length == 0 ? text : text + " throws " + names(m.getExceptionTypes(), true);
    }

    private static String names(Class<?>[] types, boolean simple) {
        StringBuilder t = new StringBuilder();
        for (Class<?> type : types) {
            t.append(t.length() == 0 ? "" : ", ").append(simple ? type.getSimpleName() : type.getName());
        }
        return t.toString();
    }
}
