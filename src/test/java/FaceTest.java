import java.io.IOException;
import java.lang.reflect.Constructor;
import java.lang.reflect.Field;
import java.lang.reflect.Method;
import java.lang.reflect.Modifier;
import java.nio.file.Files;
import java.nio.file.Path;
import java.util.Set;
import java.util.TreeSet;
import java.util.regex.Matcher;
import java.util.regex.Pattern;

/** The public face, no more and no less, and the rules of LANGUAGE.md that can be seen from outside. */
public final class FaceTest {
    private static final String[] CALLS = {
        "int shape(int, int, int)", "int turn(int, int)", "int about(int, int)", "int has(int, int, int)", "int rule(int, int)",
        "int alone(int, int)", "int pair(int, int, int, int, int, int)", "int best(int, int, int)",
        "int punch(int, int, int, int, int)", "int ahead(int, int)", "int free(int, int)", "int must(int, int)",
        "int together(int, int)", "int stations()", "int station(int)", "long force(int, int)", "int peak(int, int)",
        "int punched(int, int)", "int slit(int, int, int, int, int)", "int sheet(int, int, int)", "int lose(int)",
        "int put(int, int, int)", "long at(int, int, int)", "int tell(int)", "int keep(int)", "int as(int, int)",
        "int trace()", "int fault()", "int told(int)"};
    private static final String[] BANNED = {
        "throw", "try", "catch", "synchronized", "assert", "import", "->", "::", "@Override", "equals", "hashCode", "toString",
        "System", "Thread", "Exact", "Object"};
    private static int wrong = 0;

    public static void main(String[] args) throws IOException {
        calls();
        constants();
        classes(StripDies.class);
        words();
        System.out.println(wrong == 0 ? "the face is as told" : wrong + " faults of the face");
        if (wrong != 0) {
            System.exit(1);
        }
    }

    private static void due(String what, Object got, Object want) {
        if (!got.equals(want)) {
            wrong++;
            System.out.println(what + " is " + got + ", due is " + want);
        }
    }

    private static void calls() {
        Set<String> found = new TreeSet<>();
        Set<String> names = new TreeSet<>();
        for (Method m : StripDies.class.getDeclaredMethods()) {
            if (!Modifier.isPrivate(m.getModifiers())) {
                due(m + " is public", Modifier.isPublic(m.getModifiers()), true);
                due(m + " is static", Modifier.isStatic(m.getModifiers()), false);
                StringBuilder with = new StringBuilder();
                for (Class<?> one : m.getParameterTypes()) {
                    with.append(with.length() == 0 ? "" : ", ").append(one);
                }
                found.add(m.getReturnType() + " " + m.getName() + "(" + with + ")");
                names.add(m.getName());
            }
        }
        due("the calls", found, new TreeSet<>(Set.of(CALLS)));
        for (Method m : StripDies.class.getDeclaredMethods()) {
            if (Modifier.isPrivate(m.getModifiers())) {
                due(m + " bears a call's name", names.contains(m.getName()), false);
            }
        }
        Constructor<?>[] all = StripDies.class.getDeclaredConstructors();
        due("constructors", all.length, 1);
        due("its parameters", all[0].getParameterCount(), 0);
        due("it is public", Modifier.isPublic(all[0].getModifiers()), true);
        due("the class is final", Modifier.isFinal(StripDies.class.getModifiers()), true);
    }

    private static void constants() {
        Set<String> found = new TreeSet<>();
        for (Field f : StripDies.class.getDeclaredFields()) {
            if (!Modifier.isPrivate(f.getModifiers())) {
                due(f.getName() + " is final", Modifier.isFinal(f.getModifiers()), true);
                found.add(f.getType() + " " + f.getName());
            }
        }
        due("the constants", found, new TreeSet<>(Set.of("int UNKNOWN", "int OUTSIDE", "int STATE", "int FULL", "int NONE", "long LOST")));
        due("UNKNOWN", StripDies.UNKNOWN, -1);
        due("OUTSIDE", StripDies.OUTSIDE, -2);
        due("STATE", StripDies.STATE, -3);
        due("FULL", StripDies.FULL, -4);
        due("NONE", StripDies.NONE, -9);
        due("LOST", StripDies.LOST, Long.MIN_VALUE);
    }

    private static void classes(Class<?> of) {
        int fields = 0;
        for (Field f : of.getDeclaredFields()) {
            fields += Modifier.isStatic(f.getModifiers()) ? 0 : 1;
            due(of + "'s static " + f.getName() + " is final", !Modifier.isStatic(f.getModifiers()) || Modifier.isFinal(f.getModifiers()), true);
        }
        due(of + " has few fields", fields <= 20, true);
        for (Method m : of.getDeclaredMethods()) {
            due(m + " takes few parameters", m.getParameterCount() <= 7, true);
        }
        due("few classes", of.getDeclaredClasses().length < 12, true);
        for (Class<?> inside : of.getDeclaredClasses()) {
            due(inside + " is static", Modifier.isStatic(inside.getModifiers()), true);
            due(inside + " is public", Modifier.isPublic(inside.getModifiers()), false);
            classes(inside);
        }
    }

    private static void words() throws IOException {
        String text = Files.readString(Path.of("src/main/java/StripDies.java"));
        String code = Pattern.compile("/\\*.*?\\*/|//[^\\n]*", Pattern.DOTALL).matcher(text).replaceAll(" ");
        for (String word : BANNED) {
            String edge = Character.isLetter(word.charAt(0)) ? "\\b" : "";
            Matcher m = Pattern.compile(edge + Pattern.quote(word) + edge).matcher(code);
            due("use of " + word, m.find(), false);
        }
    }
}
