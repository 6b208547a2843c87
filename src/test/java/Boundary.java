import java.lang.reflect.InvocationTargetException;
import java.lang.reflect.Method;
import java.lang.reflect.Modifier;
import java.util.ArrayList;
import java.util.Comparator;
import java.util.List;
import java.util.TreeMap;
import java.util.function.Supplier;
import java.util.function.ToIntFunction;
import java.util.regex.Matcher;
import java.util.regex.Pattern;

/**
 * What the tests of boundary cases share: each test is a static method promise(number)(What holds) of a
 * class that extends this one (the unnamed package leaves no static imports).
 */
abstract class Boundary {
    static final int NONE = -1, UNKNOWN = -2, OUTSIDE = -3, NOT = -4, FULL = -5;
    static final int LOW = Integer.MIN_VALUE, HIGH = Integer.MAX_VALUE;
    static final String SIX = "plain;smooth;shy;host;plain;shy";

    private static final Pattern NAME = Pattern.compile("promise(\\d+)[A-Z]\\w*");
    /** The ways to look at what an object holds; some use it up, so that each takes a new one. */
    private static final List<ToLooks> LOOKS = List.of(
            Boundary::atAll, Boundary::atUndone,
            (x, seen) -> atKept(x, 0, seen), (x, seen) -> atKept(x, 1, seen),
            Boundary::atText, Boundary::atTold);

    private static String test = "";
    private static int wrong = 0;

    private interface ToLooks {
        void look(NearlyKnown x, List<Integer> seen);
    }

    // ---- running

    static void run(Class<?> tests, int firstPromise, int lastPromise) {
        TreeMap<Integer, List<Method>> byPromise = new TreeMap<>();
        int count = 0;
        for (Method m : tests.getDeclaredMethods()) {
            Matcher name = NAME.matcher(m.getName());
            if (name.matches() && Modifier.isStatic(m.getModifiers())) {
                byPromise.computeIfAbsent(Integer.valueOf(name.group(1)), n -> new ArrayList<>()).add(m);
                count++;
            }
        }
        for (int promise = firstPromise; promise <= lastPromise; promise++) {
            if (!byPromise.containsKey(promise)) {
                fail("promise " + promise + " has no test in " + tests.getName());
            }
        }
        for (List<Method> methods : byPromise.values()) {
            methods.sort(Comparator.comparing(Method::getName));
            methods.forEach(Boundary::runOne);
        }
        System.out.println(tests.getName() + ": " + count + " tests, " + wrong + " answers not as due");
        if (wrong != 0) {
            System.exit(1);
        }
    }

    private static void runOne(Method m) {
        test = m.getName();
        try {
            m.invoke(null);
        } catch (InvocationTargetException e) {
            fail(test + " threw " + e.getCause());
        } catch (IllegalAccessException e) {
            fail(test + " can not be run: " + e);
        }
    }

    private static void fail(String what) {
        wrong++;
        System.out.println(what);
    }

    // ---- what is due

    static void due(int want, int... got) {
        for (int i = 0; i < got.length; i++) {
            if (got[i] != want) {
                fail(test + ": answer " + i + " of these was " + got[i] + ", due is " + want);
            }
        }
    }

    /** Each call on an object of its own answers so, and all is behind it as without it. */
    @SafeVarargs
    static void refused(int want, Supplier<NearlyKnown> make, ToIntFunction<NearlyKnown>... calls) {
        for (ToIntFunction<NearlyKnown> call : calls) {
            due(want, call.applyAsInt(make.get()));
        }
        changesNothing(make, calls);
    }

    @SafeVarargs
    static void changesNothing(Supplier<NearlyKnown> make, ToIntFunction<NearlyKnown>... calls) {
        for (int i = 0; i < calls.length; i++) {
            for (int way = 0; way < LOOKS.size(); way++) {
                NearlyKnown x = make.get();
                calls[i].applyAsInt(x);
                List<Integer> with = new ArrayList<>();
                List<Integer> without = new ArrayList<>();
                LOOKS.get(way).look(x, with);
                LOOKS.get(way).look(make.get(), without);
                if (!with.equals(without)) {
                    fail(test + ": call " + i + " changed something, looked at by way " + way
                            + ":\n  " + with + "\n  " + without);
                }
            }
        }
    }

    // ---- looking at all that an object holds

    static List<Integer> stateOf(NearlyKnown x) {
        List<Integer> seen = new ArrayList<>();
        atAll(x, seen);
        return seen;
    }

    static void same(List<Integer> got, List<Integer> want) {
        if (!got.equals(want)) {
            fail(test + ": all is " + got + ", due is " + want);
        }
    }

    private static void atAll(NearlyKnown x, List<Integer> seen) {
        for (int what = 0; what < 8; what++) {
            seen.add(x.count(what));
        }
        for (int p = 0; p < x.count(0); p++) {
            for (int what = 0; what < 5; what++) {
                seen.add(x.person(p, what));
            }
            for (int o = 0; o < x.count(0); o++) {
                seen.add(x.to(p, o));
                seen.add(x.was(p, o));
            }
        }
        seen.add(x.fault());
    }

    private static void atUndone(NearlyKnown x, List<Integer> seen) {
        for (int i = 0; i < 9; i++) {
            seen.add(x.undo());
            for (int what = 1; what < 5; what++) {
                seen.add(x.count(what));
            }
            for (int p = 0; p < x.count(0); p++) {
                seen.add(x.learn(p, 1, 0));
                seen.add(x.learn(p, 3, 0));
            }
        }
        atAll(x, seen);
    }

    private static void atKept(NearlyKnown x, int k, List<Integer> seen) {
        seen.add(x.back(k));
        atAll(x, seen);
    }

    private static void atText(NearlyKnown x, List<Integer> seen) {
        seen.add(x.season());
        atAll(x, seen);
    }

    private static void atTold(NearlyKnown x, List<Integer> seen) {
        seen.add(x.erase());
        write(x, "as 0 1 7");
        seen.add(x.season());
        atAll(x, seen);
    }

    // ---- making

    static NearlyKnown write(NearlyKnown x, String text) {
        for (int i = 0; i < text.length(); i++) {
            x.write(text.charAt(i));
        }
        return x;
    }

    static NearlyKnown tell(NearlyKnown x, String text) {
        if (write(x, text).season() < 0) {
            fail(test + ": the text was not taken: " + text);
        }
        return x;
    }

    static NearlyKnown told(String... texts) {
        NearlyKnown x = new NearlyKnown();
        for (String text : texts) {
            tell(x, text);
        }
        return x;
    }

    /** One of each kind; something told, done, kept twice, SEEN (and so), and a right text not done yet. */
    static NearlyKnown busy() {
        NearlyKnown x = told("plain;smooth;shy;host;as 0 1 3;as 1 2 3;as 2 0 1;as 3 0 3;room 7");
        x.seen(3, 0, 3);
        x.seen(5, 2, 1);
        x.comes(3, 1);
        x.keep(0);
        x.introduce(2, 1, 3);
        x.evening();
        x.introduce(1, 0, 1);
        x.keep(1);
        x.contradict(0, 2);
        return write(x, "shy;as 4 0 1");
    }

    /** Six plain ones, each another ROLE to each other one: any three of them clash. */
    static NearlyKnown strangers() {
        NearlyKnown x = told("plain;plain;plain;plain;plain;plain;room 63");
        for (int p = 0; p < 6; p++) {
            for (int o = 0; o < 6; o++) {
                x.introduce(p, o, o + 1);
            }
        }
        return x;
    }

    /** So many letters, the last ones blanks. */
    static String padded(String text, int length) {
        return text + " ".repeat(length - text.length());
    }
}
