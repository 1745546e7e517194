import java.lang.reflect.Constructor;
import java.lang.reflect.Field;
import java.lang.reflect.Method;
import java.lang.reflect.Modifier;
import java.util.Set;
import java.util.TreeSet;

/** The public face of the document, and no more; and no call throws, whatever it is given. */
public final class FaceTest {
    private static final String[] METHODS = {"people 1", "door 2", "lies 2", "deed 3", "told 1", "find 5", "finds 4",
        "found 2", "about 2", "clear 0", "denied 1", "suspects 0", "with 1", "way 3", "doer 0", "next 0", "fewest 0",
        "least 0", "claim 1", "make 1", "sheet 3", "drop 1", "item 4"};
    private static final int[] WILD = {Integer.MIN_VALUE, Integer.MIN_VALUE + 1, -61, -14, -2, -1, 0, 1, 2, 3, 5, 7, 8, 9,
        10, 12, 13, 19, 20, 21, 31, 32, 33, 59, 60, 61, 1 << 30, Integer.MAX_VALUE - 1, Integer.MAX_VALUE};
    private static int roll = 12345;

    public static void main(String[] args) throws ReflectiveOperationException {
        constants();
        methods();
        for (int run = 0; run < 60; run++) {
            wild(run);
        }
        Check.end();
    }

    private static void constants() throws ReflectiveOperationException {
        String[] names = {"BAD", "NOT", "FULL", "NONE", "NULL", "CAST", "INDEX", "SIZE"};
        int[] numbers = {-1, -2, -3, -4, -11, -12, -13, -14};
        for (int k = 0; k < names.length; k++) {
            Field f = DeedDesk.class.getField(names[k]);
            Check.due("face: " + names[k], f.getInt(null), numbers[k]);
            Check.holds("face: " + names[k] + " is final", Modifier.isFinal(f.getModifiers()));
        }
        for (Field f : DeedDesk.class.getDeclaredFields()) {
            Check.holds("face: " + f.getName(), Modifier.isPrivate(f.getModifiers()) || isOf(names, f.getName()));
        }
    }

    private static boolean isOf(String[] names, String name) {
        for (String one : names) {
            if (one.equals(name)) {
                return true;
            }
        }
        return false;
    }

    private static void methods() {
        Set<String> want = new TreeSet<>(Set.of(METHODS));
        Set<String> publicOnes = new TreeSet<>();
        Set<String> names = new TreeSet<>();
        for (Method m : DeedDesk.class.getDeclaredMethods()) {
            if (!Modifier.isPrivate(m.getModifiers())) {
                publicOnes.add(m.getName() + " " + m.getParameterCount());
                names.add(m.getName());
                Check.holds("face: " + m, Modifier.isPublic(m.getModifiers()) && m.getReturnType() == int.class
                    && !Modifier.isStatic(m.getModifiers()));
            }
        }
        Check.holds("face: methods " + publicOnes, publicOnes.equals(want));
        for (Method m : DeedDesk.class.getDeclaredMethods()) {
            Check.holds("rule 1: " + m, !Modifier.isPrivate(m.getModifiers()) || !names.contains(m.getName()));
        }
        Constructor<?>[] made = DeedDesk.class.getDeclaredConstructors();
        Check.due("face: constructors", made.length, 1);
        Check.holds("face: the constructor", Modifier.isPublic(made[0].getModifiers()) && made[0].getParameterCount() == 0);
        Check.holds("face: a final class", Modifier.isFinal(DeedDesk.class.getModifiers()));
        for (Class<?> c : DeedDesk.class.getDeclaredClasses()) {
            int m = c.getModifiers();
            Check.holds("rule 1: " + c, Modifier.isStatic(m) && !Modifier.isPublic(m) && !Modifier.isProtected(m));
        }
    }

    private static int n() {
        roll = roll * 1103515245 + 12345;
        int k = (roll >>> 16) % (2 * WILD.length);
        return k < WILD.length ? WILD[k] : k % 8;
    }

    private static void wild(int run) throws ReflectiveOperationException {
        DeedDesk x = new DeedDesk();
        Method[] all = DeedDesk.class.getDeclaredMethods();
        java.util.Arrays.sort(all, (a, b) -> a.toString().compareTo(b.toString()));
        String last = "";
        for (int call = 0; call < 512; call++) {
            Method m = all[(n() & 0xffff) % all.length];
            if (!Modifier.isPublic(m.getModifiers())) {
                continue;
            }
            Object[] with = new Object[m.getParameterCount()];
            StringBuilder told = new StringBuilder(m.getName());
            for (int k = 0; k < with.length; k++) {
                with[k] = m.getParameterTypes()[k] == boolean.class ? (Object) (n() % 2 == 0) : (Object) n();
                told.append(' ').append(with[k]);
            }
            last = told.toString();
            try {
                int got = (Integer) m.invoke(x, with);
                Check.holds("run " + run + ": " + last + " answered " + got, got >= -4 || got >= -14 && got <= -11);
            } catch (java.lang.reflect.InvocationTargetException e) {
                Check.holds("run " + run + ": " + last + " threw " + e.getCause(), false);
            }
        }
    }
}
