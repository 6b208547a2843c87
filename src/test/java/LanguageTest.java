import java.nio.file.Files;
import java.nio.file.Path;
import java.lang.reflect.Constructor;
import java.lang.reflect.Field;
import java.lang.reflect.Method;
import java.lang.reflect.Modifier;
import java.util.Set;
import java.util.TreeSet;
import java.util.regex.Matcher;
import java.util.regex.Pattern;

/** What of LANGUAGE.md and of the document's face can be looked at by a program. */
public final class LanguageTest {
    private static final String[] FORBIDDEN = {
        "\\bimport\\b", "\\bpackage\\b", "\\bthrow\\b", "\\bthrows\\b", "\\btry\\b", "\\bcatch\\b", "\\bfinally\\b",
        "\\bsynchronized\\b", "\\bassert\\b", "->", "::", "\\bstatic\\s*\\{", "\\bprotected\\b", "\\bSystem\\.(?!arraycopy)",
        "\\bThread\\b", "\\bRandom\\b", "\\bExact\\b", "@"};
    private static final Set<String> FACE = new TreeSet<>(Set.of(
        "write(int)", "erase()", "fault()", "season()", "person(int,int)", "to(int,int)", "as(int,int)",
        "comes(int,int)", "introduce(int,int,int)", "contradict(int,int)", "evening()", "undo()", "keep(int)",
        "back(int)", "clash(int)", "rooms(int,int)", "largest(int)", "smallest(int)", "may(int,int)",
        "learn(int,int,int)", "stays(int)", "seen(int,int,int)", "forget()", "was(int,int)", "chance(int,int,int)",
        "count(int)"));
    private static final Set<String> CONSTANTS = new TreeSet<>(Set.of("NONE=-1", "UNKNOWN=-2", "OUTSIDE=-3", "NOT=-4", "FULL=-5"));

    private static int wrong = 0;

    private static void fail(String what) {
        wrong++;
        System.out.println(what);
    }

    private static void lookAtSource(String source) {
        String code = source.replaceAll("(?s)/\\*.*?\\*/", " ").replaceAll("//[^\n]*", " ");
        for (String pattern : FORBIDDEN) {
            Matcher m = Pattern.compile(pattern).matcher(code);
            if (m.find()) {
                fail("the source has what LANGUAGE.md leaves out: " + m.group());
            }
        }
        for (int i = 0; i < source.length(); i++) {
            if (source.charAt(i) > 126) {
                fail("a sign beyond 126 at " + i);
            }
        }
    }

    private static String signature(Method m) {
        StringBuilder s = new StringBuilder(m.getName()).append('(');
        for (Class<?> type : m.getParameterTypes()) {
            s.append(s.charAt(s.length() - 1) == '(' ? "" : ",").append(type.getName());
        }
        return s.append(')').toString();
    }

    private static void lookAtFace() throws IllegalAccessException {
        Set<String> methods = new TreeSet<>();
        Set<String> names = new TreeSet<>();
        for (Method m : NearlyKnown.class.getDeclaredMethods()) {
            if (!Modifier.isPrivate(m.getModifiers())) {
                methods.add(signature(m));
                names.add(m.getName());
                if (!Modifier.isPublic(m.getModifiers()) || m.getReturnType() != int.class) {
                    fail("not as in the face: " + m);
                }
            }
        }
        if (!methods.equals(FACE)) {
            fail("the face is " + methods);
        }
        Set<String> constants = new TreeSet<>();
        for (Field f : NearlyKnown.class.getDeclaredFields()) {
            if (!Modifier.isPrivate(f.getModifiers())) {
                constants.add(f.getName() + "=" + f.getInt(null));
            }
        }
        if (!constants.equals(CONSTANTS)) {
            fail("the constants are " + constants);
        }
        Constructor<?>[] made = NearlyKnown.class.getDeclaredConstructors();
        if (made.length != 1 || made[0].getParameterCount() != 0 || !Modifier.isPublic(made[0].getModifiers())) {
            fail("not the one public constructor");
        }
        lookForBorrowedNames(NearlyKnown.class, names);
        for (Class<?> inside : NearlyKnown.class.getDeclaredClasses()) {
            lookForBorrowedNames(inside, names);
            if (!Modifier.isStatic(inside.getModifiers())) {
                fail("not static: " + inside);
            }
        }
    }

    private static void lookForBorrowedNames(Class<?> type, Set<String> names) {
        for (Method m : type.getDeclaredMethods()) {
            if (!Modifier.isPublic(m.getModifiers()) && names.contains(m.getName())) {
                fail("a private method bears a public one's name: " + m);
            }
            if (m.getParameterCount() > 7) {
                fail("more than seven parameters: " + m);
            }
        }
    }

    /** Static fields are final, a class has some twenty fields at most, and there are some twelve classes. */
    private static void lookAtFields(Class<?> type) {
        int fields = 0;
        for (Field f : type.getDeclaredFields()) {
            boolean ofClass = Modifier.isStatic(f.getModifiers());
            if (ofClass && !Modifier.isFinal(f.getModifiers())) {
                fail("a static field that is not final: " + f);
            }
            fields += ofClass ? 0 : 1;
        }
        if (fields > 20) {
            fail(fields + " fields in " + type);
        }
        if (type.getDeclaredClasses().length > 11) {
            fail("more than twelve classes");
        }
        for (Class<?> inside : type.getDeclaredClasses()) {
            lookAtFields(inside);
        }
    }

    public static void main(String[] args) throws Exception {
        lookAtSource(Files.readString(Path.of("src/main/java/NearlyKnown.java")));
        lookAtFace();
        lookAtFields(NearlyKnown.class);
        System.out.println("language: " + wrong + " faults");
        if (wrong != 0) {
            System.exit(1);
        }
    }
}
