import java.lang.annotation.ElementType;
import java.lang.annotation.Retention;
import java.lang.annotation.RetentionPolicy;
import java.lang.annotation.Target;
import java.lang.reflect.InvocationTargetException;
import java.lang.reflect.Method;
import java.util.ArrayList;
import java.util.Comparator;
import java.util.List;
import java.util.NoSuchElementException;

/** What the tests of edges share: tests that say which sentence of the document they hold to, and how to tell an office. */
final class Bench {
    static final long THROWN = Long.MIN_VALUE;

    /** Numbers that are no arm, map, hole, point, corner, mark or what of anything. */
    static final int[] NOWHERE = {-1, Integer.MIN_VALUE, Integer.MAX_VALUE, Integer.MIN_VALUE + 1, 1 << 16, 1 << 30, -1 << 30};

    /** A test of one sentence: the promise by its number, and the words of the document. */
    @Retention(RetentionPolicy.RUNTIME)
    @Target(ElementType.METHOD)
    @interface Says {
        int promise();

        String value();
    }

    private static final List<String> WRONG = new ArrayList<>();

    private Bench() {
    }

    /** Runs each test of a class that says a sentence; ends the machine with 1 if one fails. */
    static void runAll(Class<?> tests) {
        List<Method> all = new ArrayList<>();
        for (Method method : tests.getDeclaredMethods()) {
            if (method.isAnnotationPresent(Says.class)) {
                all.add(method);
            }
        }
        all.sort(Comparator.comparingInt((Method m) -> m.getAnnotation(Says.class).promise()).thenComparing(Method::getName));
        int failed = 0;
        for (Method test : all) {
            WRONG.clear();
            run(test);
            if (!WRONG.isEmpty()) {
                failed++;
                Says says = test.getAnnotation(Says.class);
                System.out.println("promise " + says.promise() + ", " + test.getName() + ", \"" + says.value() + "\":");
                for (String line : WRONG) {
                    System.out.println("  " + line);
                }
            }
        }
        System.out.println(all.size() + " sentences tested, " + failed + " broken");
        if (failed != 0 || all.isEmpty()) {
            System.exit(1);
        }
    }

    private static void run(Method test) {
        try {
            test.setAccessible(true);
            test.invoke(null);
        } catch (InvocationTargetException e) {
            WRONG.add("threw " + e.getCause());
        } catch (IllegalAccessException e) {
            WRONG.add("can't be run: " + e);
        }
    }

    static void due(String what, long got, long want) {
        if (got != want) {
            WRONG.add(what + ": answered " + told(got) + ", due is " + told(want));
        }
    }

    static void due(String what, boolean got, boolean want) {
        if (got != want) {
            WRONG.add(what + ": answered " + got + ", due is " + want);
        }
    }

    static void due(String what, String got, String want) {
        if (!got.equals(want)) {
            WRONG.add(what + ": answered " + got + ", due is " + want);
        }
    }

    private static String told(long answer) {
        return answer == THROWN ? "NoSuchElementException" : Long.toString(answer);
    }

    static int feedText(CopyArms x, String text) {
        int length = x.count(4);
        for (int start = 0; start < text.length(); start += 24) {
            long[] words = new long[3];
            for (int i = start; i < text.length() && i < start + 24; i++) {
                words[(i - start) / 8] |= (long) text.charAt(i) << 56 - 8 * ((i - start) % 8);
            }
            length = x.feed(words[0], words[1], words[2]);
        }
        return length;
    }

    static int tell(CopyArms x, String text) {
        feedText(x, text);
        return x.office();
    }

    /** A new object whose office is told without a fault. */
    static CopyArms made(String text) {
        CopyArms x = new CopyArms();
        due("office of " + text, tell(x, text), 0);
        return x;
    }

    static CopyArms accepts(String text) {
        return made(text);
    }

    /** The text has a fault of that kind at the place of the sign ^, which is taken out of it. */
    static void refuses(String marked, int kind) {
        int place = marked.indexOf('^');
        String text = marked.substring(0, place) + marked.substring(place + 1);
        due("fault of " + text, tell(new CopyArms(), text), kind + 16L * place);
    }

    /** An arm that reaches 200 far from (0, 0), not turned, not bent, with a shake of 1. */
    static String plain(String name, String holes) {
        return arm(name, "plain", holes, 0, 0, 0, 200);
    }

    static String arm(String name, String kind, String holes, int turn, int x, int y, int reach) {
        return "arm " + name + " " + kind + " holes " + holes + " turn " + turn + " at " + x + " " + y + " reach " + reach + " shake 1;";
    }

    static String shaking(String name, String kind, String holes, int shake) {
        return "arm " + name + " " + kind + " holes " + holes + " turn 0 at 0 0 reach 200 shake " + shake + ";";
    }

    static String map(String name, String size, int slips, String points) {
        return "map " + name + " size " + size + " slips " + slips + " points " + points + ";";
    }

    static long traced(CopyArms x, int arm, int px, int py, int what) {
        try {
            return x.trace(arm, px, py, what);
        } catch (NoSuchElementException e) {
            return THROWN;
        }
    }

    static long drawn(CopyArms x, int px, int py, int what) {
        try {
            return x.draw(px, py, what);
        } catch (NoSuchElementException e) {
            return THROWN;
        }
    }

    static long crooked(CopyArms x, int arm) {
        try {
            return x.crooked(arm);
        } catch (NoSuchElementException e) {
            return THROWN;
        }
    }

    /** All four parts of a copy by an arm alone, as "x/below y/below"; OUT if it throws for each of them. */
    static String copy(CopyArms x, int arm, int px, int py) {
        long[] parts = new long[4];
        for (int what = 0; what < 4; what++) {
            parts[what] = traced(x, arm, px, py, what);
        }
        return written(parts);
    }

    static String copyOfChain(CopyArms x, int px, int py) {
        long[] parts = new long[4];
        for (int what = 0; what < 4; what++) {
            parts[what] = drawn(x, px, py, what);
        }
        return written(parts);
    }

    private static String written(long[] parts) {
        int thrown = 0;
        for (long part : parts) {
            thrown += part == THROWN ? 1 : 0;
        }
        return thrown == 4 ? "OUT" : parts[0] + "/" + parts[1] + " " + parts[2] + "/" + parts[3];
    }

    /** All that can be asked of how the object stands, in some 130 calls that change nothing. */
    static String state(CopyArms x) {
        StringBuilder all = new StringBuilder();
        for (int what = 0; what <= 4; what++) {
            all.append(x.count(what)).append(' ');
        }
        for (int arm = 0; arm < x.count(0); arm++) {
            for (int what = 0; what <= 9; what++) {
                all.append(x.arm(arm, what)).append(' ');
            }
            all.append(crooked(x, arm)).append(' ');
        }
        for (int map = 0; map < x.count(1); map++) {
            for (int what = 0; what <= 3; what++) {
                all.append(x.map(map, what)).append(' ');
            }
            all.append(x.outs(map)).append(' ');
        }
        for (int what = 0; what <= 3; what++) {
            all.append(x.size(what)).append(' ').append(drawn(x, 3, 1, what)).append(' ');
        }
        all.append(x.shakes(0)).append(' ').append(x.shakes(1)).append(' ');
        for (int what = 0; what <= 6; what++) {
            all.append(x.steadiest(what)).append(' ');
        }
        return all.append(x.suspects()).append(' ').append(x.descent(0)).toString();
    }
}
