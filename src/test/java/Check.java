import java.lang.reflect.InvocationTargetException;
import java.lang.reflect.Method;
import java.util.ArrayList;
import java.util.Arrays;
import java.util.Comparator;
import java.util.List;
import java.util.regex.Matcher;
import java.util.regex.Pattern;

/** Counts the answers that are not as due, and tells each. */
final class Check {
    /** A call that is put to an object. */
    interface Call {
        long of(MangleLine x);
    }

    private static final Pattern NAMED = Pattern.compile("promise([0-9]+)[A-Z]\\w*");

    private final String name;
    /** The test that runs, where a class has several by promises. */
    private String test = "";
    private int asked;
    private int wrong;

    Check(String name) {
        this.name = name;
    }

    void due(String call, long got, long want) {
        asked++;
        if (got != want) {
            tellWrong(call + " answered " + got + ", due is " + want);
        }
    }

    void holds(String what, boolean it) {
        due(what, it ? 1 : 0, 1);
    }

    void same(String what, List<String> got, List<String> want) {
        asked++;
        if (!got.equals(want)) {
            int at = 0;
            while (at < got.size() && at < want.size() && got.get(at).equals(want.get(at))) {
                at++;
            }
            tellWrong(what + ": told is " + got.subList(at, got.size()) + ", due is " + want.subList(at, want.size()));
        }
    }

    private void tellWrong(String what) {
        wrong++;
        System.out.println(name + ": " + (test.isEmpty() ? "" : test + ": ") + what);
    }

    /** A call that changes nothing, refused or not, by its answer. */
    void leaves(String call, Scene scene, long want, Call it) {
        MangleLine x = scene.make();
        due(call + " of " + scene, it.of(x), want);
        same(call + " of " + scene + " changes nothing", Scene.tell(x), scene.untouched());
    }

    /** A call that is refused alike whatever there is, and changes nothing. */
    void refuses(String call, long want, Call it) {
        for (Scene scene : Scene.values()) {
            leaves(call, scene, want, it);
        }
    }

    /** Calls that are asked alone: whatever they answer, they change nothing. */
    void onlyAsks(String call, Call it) {
        for (Scene scene : Scene.values()) {
            MangleLine x = scene.make();
            it.of(x);
            same(call + " of " + scene + " changes nothing", Scene.tell(x), scene.untouched());
        }
    }

    /** The numbers nearest to the bounds that lie outside of them, and the farthest. */
    static int[] outside(int least, int most) {
        return new int[] {least - 1, most + 1, Integer.MIN_VALUE, Integer.MAX_VALUE};
    }

    /** Feeds a text byte by byte; what it tells is asked of text(). */
    static MangleLine fed(MangleLine x, String text) {
        for (int i = 0; i < text.length(); i++) {
            x.feed(text.charAt(i));
        }
        return x;
    }

    /** A new object that has been told a text. */
    static MangleLine told(String text) {
        MangleLine x = fed(new MangleLine(), text);
        if (x.text() < 0) {
            throw new IllegalStateException("the test's own text is refused: " + text);
        }
        return x;
    }

    /** SHEET k becomes a row of these CELLS. */
    static MangleLine laid(MangleLine x, int k, int lane, int... cells) {
        x.sheet(k, lane, cells.length);
        for (int i = 0; i < cells.length; i++) {
            x.lay(k, i, cells[i]);
        }
        return x;
    }

    /** DAYS pass until it is that one. */
    static MangleLine daysTo(MangleLine x, int day) {
        for (int left = day - x.rule(1); left > 0; left -= 30) {
            if (x.days(Math.min(30, left)) < 0) {
                throw new IllegalStateException("the test's own days are refused: " + day);
            }
        }
        return x;
    }

    /** Runs each test that names a promise ("promise12Shine.."); from .. to each must have one. */
    void runPromises(Class<?> tests, int from, int to) {
        List<Method> named = new ArrayList<>();
        for (Method m : tests.getDeclaredMethods()) {
            if (NAMED.matcher(m.getName()).matches()) {
                named.add(m);
            }
        }
        named.sort(Comparator.comparingInt(Check::promiseOf).thenComparing(Method::getName));
        int[] testsOf = new int[to + 1];
        for (Method m : named) {
            testsOf[promiseOf(m)]++;
            run(m);
        }
        test = "";
        holds("promises " + from + " to " + to + " have tests: " + Arrays.toString(testsOf),
            Arrays.stream(testsOf, from, to + 1).allMatch(n -> n > 0));
        System.out.println(name + ": " + named.size() + " tests of promises " + from + " to " + to);
    }

    private static int promiseOf(Method m) {
        Matcher number = NAMED.matcher(m.getName());
        return number.matches() ? Integer.parseInt(number.group(1)) : 0;
    }

    private void run(Method m) {
        test = m.getName();
        int before = asked;
        try {
            m.setAccessible(true);
            m.invoke(null);
        } catch (InvocationTargetException | IllegalAccessException e) {
            tellWrong("ended by " + (e.getCause() == null ? e : e.getCause()));
        }
        if (asked == before) {
            tellWrong("asks nothing");
        }
    }

    void end() {
        System.out.println(name + ": " + (asked - wrong) + " of " + asked + " as due");
        if (wrong != 0) {
            System.exit(1);
        }
    }
}
