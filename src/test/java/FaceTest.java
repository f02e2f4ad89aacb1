import java.lang.reflect.Constructor;
import java.lang.reflect.Field;
import java.lang.reflect.Method;
import java.lang.reflect.Modifier;
import java.util.Arrays;
import java.util.HashSet;
import java.util.Set;
import java.util.TreeSet;

/** The class has the document's face and nothing else that can be seen from outside. */
public final class FaceTest {
    public static void main(String[] args) {
        Check.same("the class", Modifier.toString(RuleTables.class.getModifiers()), "public final");
        constants();
        constructors();
        methods();
        classesInside();
        Check.end();
    }

    private static void constants() {
        Set<String> seen = new TreeSet<>();
        for (Field f : RuleTables.class.getDeclaredFields()) {
            if (!Modifier.isPrivate(f.getModifiers())) {
                seen.add(Modifier.toString(f.getModifiers()) + " " + f.getType() + " " + f.getName());
            }
            if (Modifier.isStatic(f.getModifiers())) {
                Check.same("static " + f.getName() + " is final", "" + Modifier.isFinal(f.getModifiers()), "true");
            }
        }
        Set<String> due = new TreeSet<>();
        for (String name : new String[] {"NONE", "SOUND", "CONTRADICTION", "GAP", "TOO_BIG"}) {
            due.add("public static final int " + name);
        }
        Check.same("the constants", seen.toString(), due.toString());
        Check.due("NONE", -1, () -> RuleTables.NONE);
        Check.due("SOUND", 0, () -> RuleTables.SOUND);
        Check.due("CONTRADICTION", 1, () -> RuleTables.CONTRADICTION);
        Check.due("GAP", 2, () -> RuleTables.GAP);
        Check.due("TOO_BIG", 3, () -> RuleTables.TOO_BIG);
    }

    private static void constructors() {
        Constructor<?>[] all = RuleTables.class.getDeclaredConstructors();
        Check.same("the constructors", Arrays.toString(all), "[public RuleTables()]");
    }

    private static void methods() {
        Set<String> seen = new TreeSet<>();
        Set<String> publicNames = new HashSet<>();
        for (Method m : RuleTables.class.getDeclaredMethods()) {
            if (!Modifier.isPrivate(m.getModifiers())) {
                seen.add(m.toString().replace("java.lang.", "").replace("RuleTables.", ""));
                publicNames.add(m.getName());
            }
        }
        String state = " throws IllegalStateException";
        String index = " throws IndexOutOfBoundsException";
        String both = " throws IllegalStateException,IndexOutOfBoundsException";
        Set<String> due = new TreeSet<>(Arrays.asList(
                "public int type(long,int) throws IllegalArgumentException,UnsupportedOperationException",
                "public void keep(int) throws IllegalArgumentException",
                "public int read()",
                "public int fault()",
                "public int amiss(int)" + both,
                "public int count(int)" + index,
                "public int rule(int,int)" + index,
                "public int name(boolean,int,int)" + index,
                "public int meets(int)" + both,
                "public int cases(int)" + both,
                "public int node(int,int)" + both,
                "public int code(int)" + both,
                "public int run(int,boolean)" + both,
                "public long tests()" + state));
        Check.same("the methods", seen.toString(), due.toString());
        for (Method m : RuleTables.class.getDeclaredMethods()) {
            boolean hides = Modifier.isPrivate(m.getModifiers()) && publicNames.contains(m.getName());
            Check.same(m.getName() + " bears the name of a public one", "" + hides, "false");
        }
    }

    private static void classesInside() {
        for (Class<?> inside : RuleTables.class.getDeclaredClasses()) {
            int modifiers = inside.getModifiers();
            boolean fine = Modifier.isStatic(modifiers) && !Modifier.isPublic(modifiers) && !Modifier.isProtected(modifiers);
            Check.same(inside.getName() + " is static and not public", "" + fine, "true");
        }
    }
}
