import java.io.IOException;
import java.lang.reflect.Constructor;
import java.lang.reflect.Field;
import java.lang.reflect.Method;
import java.lang.reflect.Modifier;
import java.nio.file.Files;
import java.nio.file.Path;
import java.util.ArrayList;
import java.util.HashSet;
import java.util.List;
import java.util.Set;
import java.util.TreeSet;
import java.util.regex.Pattern;

/** The class has the document's face, and keeps to those rules of the language that can be seen from outside. */
public class FaceTests {
    private static final String[] FACE = {
        "long deposit(int, int) IOOBE IAE ISE",
        "long fund(int, int) IOOBE IAE ISE",
        "int order(int, int, int, int, int, int, int) IOOBE IAE ISE",
        "int stop(int, int, int, int, int, int) IOOBE IAE ISE",
        "void tie(int, int) IOOBE IAE ISE",
        "int cancel(int) IOOBE ISE",
        "int spread(int, int, int, int, int) IOOBE IAE ISE",
        "int standing(int) IOOBE",
        "int best(int, int) IOOBE IAE",
        "int shown(int, int, int) IOOBE IAE",
        "int band(int, int) IOOBE IAE",
        "void halt(int) IOOBE ISE",
        "long indicated(int) IOOBE",
        "int open(int) IOOBE ISE",
        "int split(int, int) IOOBE IAE ISE",
        "long dividend(int, int) IOOBE IAE",
        "int instrument(int) IOOBE",
        "int trades()",
        "int trade(int, int) IOOBE IAE",
        "void breakTrade(int) IOOBE ISE",
        "long position(int, int) IOOBE",
        "long money(int, int) IOOBE IAE",
        "int scenario(int, int, int) IAE ISE",
        "long margin(int) IOOBE",
        "long worth(int) IOOBE",
        "int member(int) IOOBE",
        "int tick(int) IAE",
        "long sell(int, int, int) IOOBE IAE ISE",
        "long settle() ISE",
        "int read(int) IOOBE",
        "int lose(int) IOOBE ISE",
        "int copy(int) IOOBE",
        "int wrong(int) IOOBE",
        "boolean replays()",
    };
    private static final Set<String> CONSTANTS =
            Set.of("NONE", "DAY", "NOW", "ALL", "REST", "CONTINUOUS", "AUCTION");

    private static int faults;

    public static void main(String[] args) throws IOException {
        methods();
        constants();
        classes();
        source();
        System.out.println(faults == 0 ? "the face is as the document has it" : faults + " faults of the face");
        if (faults > 0) {
            System.exit(1);
        }
    }

    private static void must(boolean holds, String what) {
        if (!holds) {
            faults++;
            System.out.println("not so: " + what);
        }
    }

    private static String shortName(Class<?> exception) {
        StringBuilder name = new StringBuilder();
        for (char c : exception.getSimpleName().toCharArray()) {
            if (Character.isUpperCase(c)) {
                name.append(c);
            }
        }
        return name.toString();
    }

    private static String faceOf(Method method) {
        List<String> types = new ArrayList<>();
        for (Class<?> type : method.getParameterTypes()) {
            types.add(type.getSimpleName());
        }
        StringBuilder face = new StringBuilder();
        face.append(method.getReturnType().getSimpleName()).append(' ').append(method.getName());
        face.append('(').append(String.join(", ", types)).append(')');
        for (Class<?> exception : method.getExceptionTypes()) {
            face.append(' ').append(shortName(exception));
        }
        return face.toString();
    }

    private static void methods() {
        TreeSet<String> due = new TreeSet<>(List.of(FACE));
        TreeSet<String> has = new TreeSet<>();
        Set<String> names = new HashSet<>();
        for (Method method : NettingHall.class.getDeclaredMethods()) {
            if (Modifier.isPublic(method.getModifiers())) {
                has.add(faceOf(method));
                names.add(method.getName());
                must(!Modifier.isStatic(method.getModifiers()), method.getName() + " is of an object");
            }
        }
        must(has.equals(due), "the public methods are " + due + ", but they are " + has);
        for (Method method : NettingHall.class.getDeclaredMethods()) {
            if (!Modifier.isPublic(method.getModifiers()) && !method.isSynthetic()) {
                must(Modifier.isPrivate(method.getModifiers()), method.getName() + " is private");
                must(!names.contains(method.getName()), method.getName() + " does not bear a public name");
            }
        }
        must(Modifier.isPublic(NettingHall.class.getModifiers()), "the class is public");
        must(Modifier.isFinal(NettingHall.class.getModifiers()), "the class is final");
        Constructor<?>[] makers = NettingHall.class.getDeclaredConstructors();
        must(makers.length == 1 && Modifier.isPublic(makers[0].getModifiers())
                && makers[0].getParameterCount() == 0, "there is one constructor, public, without arguments");
    }

    private static void constants() {
        Set<String> has = new HashSet<>();
        for (Field field : NettingHall.class.getDeclaredFields()) {
            int how = field.getModifiers();
            if (Modifier.isPublic(how)) {
                has.add(field.getName());
                must(Modifier.isStatic(how) && Modifier.isFinal(how), field.getName() + " is a constant");
                must(field.getType() == int.class, field.getName() + " is an int");
            } else {
                must(Modifier.isPrivate(how), field.getName() + " is private");
            }
        }
        must(has.equals(CONSTANTS), "the constants are " + CONSTANTS + ", but they are " + has);
    }

    private static void classes() {
        Class<?>[] inside = NettingHall.class.getDeclaredClasses();
        must(inside.length <= 11, "there are at most twelve classes");
        for (Class<?> one : inside) {
            must(Modifier.isStatic(one.getModifiers()), one.getName() + " is static");
            must(!Modifier.isPublic(one.getModifiers()), one.getName() + " is not public");
            int fields = 0;
            for (Field field : one.getDeclaredFields()) {
                int how = field.getModifiers();
                must(!Modifier.isStatic(how) || Modifier.isFinal(how), field.getName() + " is no static state");
                fields += Modifier.isStatic(how) ? 0 : 1;
            }
            must(fields <= 20, one.getName() + " has at most twenty fields");
            for (Method method : one.getDeclaredMethods()) {
                must(method.getParameterCount() <= 7, method.getName() + " takes at most seven");
            }
        }
    }

    private static void source() throws IOException {
        Path path = Path.of("src/main/java/NettingHall.java");
        if (!Files.exists(path)) {
            System.out.println("(the source is not here: its rules are not looked at)");
            return;
        }
        String text = Files.readString(path);
        String[] never = {"\\bimport\\b", "\\bpackage\\b", "\\btry\\b", "\\bcatch\\b", "\\bfinally\\b", "Exact\\(",
            "->", "::", "\"\\s*\\+", "\\+\\s*\"", "\\bsynchronized\\b", "\\bassert\\b", "\\bSystem\\.", "\\bThread\\b",
            "\\bRandom\\b", "\\btoString\\b", "\\bhashCode\\b", "\\bequals\\b", "[^\\x00-\\x7f]"};
        for (String word : never) {
            must(!Pattern.compile(word).matcher(text).find(), "the source is without " + word);
        }
        int lines = 0;
        for (String line : text.split("\n")) {
            boolean starts = line.matches("(    ){1,2}[^ /*@}].*\\{") || line.startsWith("            throws");
            lines = starts ? 0 : lines + 1;
            must(lines <= 60 || !line.matches("(    ){1,2}}"), "a method has at most 60 lines: " + line);
        }
    }
}
