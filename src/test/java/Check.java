import java.util.ArrayList;
import java.util.List;

/** Counts the answers that are not as due, and ends a test with exit code 1 if there was one. */
final class Check {
    private static int asked = 0;
    private static final List<String> wrong = new ArrayList<>();

    private Check() {
    }

    static void due(String call, long got, long want) {
        asked++;
        if (got != want) {
            wrong.add(call + " answered " + got + ", due is " + want);
        }
    }

    static void holds(String what, boolean is) {
        asked++;
        if (!is) {
            wrong.add(what);
        }
    }

    static void end() {
        for (int i = 0; i < wrong.size() && i < 40; i++) {
            System.out.println(wrong.get(i));
        }
        System.out.println(asked + " asked, " + wrong.size() + " wrong");
        if (!wrong.isEmpty() || asked == 0) {
            System.exit(1);
        }
    }
}
