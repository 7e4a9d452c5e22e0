import java.io.IOException;
import java.lang.reflect.Constructor;
import java.lang.reflect.Field;
import java.lang.reflect.Method;
import java.lang.reflect.Modifier;
import java.nio.file.Files;
import java.nio.file.Path;
import java.util.ArrayList;
import java.util.List;
import java.util.Set;
import java.util.TreeSet;
import java.util.regex.Matcher;
import java.util.regex.Pattern;

/** The public face, and those rules of ../shared/LANGUAGE.md that can be looked up in the file. */
public final class RulesTest {
    private static final String FACE = "int row(int,int) int lay(int,int,int) int at(int,int) int tear(int) "
        + "int copy(int,int,int,int,int) int mean(int) int text(int,int) int put(int,int,int) int fault(int) "
        + "int wheel(int) int spoke(int,int) int mark(int,int) int bears(int,int,int) int step() int soak() "
        + "int weather() int knock(int) int mend(int) int undo(int) int keep(int) int on(int) int goes(int) "
        + "int over() int limps(int,int) int gate() int turned() int change() int gone(int) "
        + "int strengths(int,int) int kinds(int,int) int look(int) int duel(int) int odds(int,int) int mid(int) "
        + "int lots(int,int) int asked() long upper() long lower() int count(int) int finding() "
        + "int findings(int) long digest() ";
    private static final Due due = new Due("RulesTest");

    public static void main(String[] args) throws IOException {
        face();
        names();
        classes();
        String file = Files.readString(Path.of("src/main/java/WheelWeeks.java"));
        words(file);
        recursion(file);
        due.end();
    }

    private static void face() {
        Set<String> told = new TreeSet<>();
        for (Method m : WheelWeeks.class.getDeclaredMethods()) {
            if (!Modifier.isPrivate(m.getModifiers())) {
                told.add(signature(m));
            }
        }
        Set<String> wanted = new TreeSet<>();
        Matcher one = Pattern.compile("(int|long) \\w+\\([^)]*\\)").matcher(FACE);
        while (one.find()) {
            wanted.add(one.group());
        }
        due.is("methods of the document", wanted.size(), 42);
        check("the face: " + told, told.equals(wanted));
        Constructor<?>[] made = WheelWeeks.class.getDeclaredConstructors();
        check("one constructor, without arguments", made.length == 1 && made[0].getParameterCount() == 0);
        check("a public final class", WheelWeeks.class.getModifiers() == (Modifier.PUBLIC | Modifier.FINAL));
        Set<String> constants = new TreeSet<>();
        for (Field f : WheelWeeks.class.getDeclaredFields()) {
            if (!Modifier.isPrivate(f.getModifiers())) {
                constants.add(f.getName());
            }
            check(f + " is final, if static",
                !Modifier.isStatic(f.getModifiers()) || Modifier.isFinal(f.getModifiers()));
        }
        check("constants: " + constants,
            constants.equals(Set.of("BAD", "FULL", "FINDING", "STATE", "SPENT", "NONE")));
    }

    private static String signature(Method m) {
        StringBuilder s = new StringBuilder(m.getReturnType() + " " + m.getName() + "(");
        for (Class<?> p : m.getParameterTypes()) {
            s.append(s.charAt(s.length() - 1) == '(' ? "" : ",").append(p);
        }
        return s.append(")").toString();
    }

    private static List<Class<?>> all() {
        List<Class<?>> all = new ArrayList<>(List.of(WheelWeeks.class.getDeclaredClasses()));
        all.add(WheelWeeks.class);
        return all;
    }

    private static void names() {
        Set<String> told = new TreeSet<>();
        for (Method m : WheelWeeks.class.getMethods()) {
            told.add(m.getName());
        }
        for (Class<?> c : all()) {
            for (Method m : c.getDeclaredMethods()) {
                boolean ofFace = c == WheelWeeks.class && Modifier.isPublic(m.getModifiers());
                check(m + " bears a name of its own", ofFace || !told.contains(m.getName()));
                check(m + " takes seven at most", m.getParameterCount() <= 7);
            }
        }
    }

    private static void classes() {
        check("twelve classes at most", all().size() <= 12);
        for (Class<?> c : all()) {
            check(c + " is static", c == WheelWeeks.class || Modifier.isStatic(c.getModifiers()));
            int fields = 0;
            for (Field f : c.getDeclaredFields()) {
                if (!Modifier.isStatic(f.getModifiers())) {
                    fields++;
                }
            }
            check(c + " has twenty fields at most", fields <= 20);
        }
    }

    private static void words(String file) {
        String code = file.replaceAll("(?s)/\\*.*?\\*/", " ").replaceAll("//[^\n]*", " ");
        String[] ruledOut = {"\\bthrow\\b", "\\btry\\b", "\\bcatch\\b", "\\bsynchronized\\b", "\\bassert\\b", "->",
            "::", "Exact\\b", "\\bpackage\\b", "static \\{", "\\bprotected\\b", "\"", "\\bdouble\\b",
            "import (?!java\\.util\\.Arrays;)", "System\\.(?!arraycopy)", "Arrays\\.(?!fill)",
            "while \\(true\\)", "for \\(;;"};
        for (String word : ruledOut) {
            check("no " + word, !Pattern.compile(word).matcher(code).find());
        }
        check("signs 1 to 127 alone", file.chars().allMatch(c -> c < 128));
    }

    /** Rule 8: what calls itself is private. */
    private static void recursion(String file) {
        String head = "^( +)((?:(?:public|private|static) )*)[\\w\\[\\]]+ (\\w+)\\([^)]*\\) \\{\n";
        Matcher method = Pattern.compile("(?ms)" + head + "(.*?)^\\1\\}$").matcher(file);
        int many = 0;
        int recursive = 0;
        while (method.find()) {
            many++;
            if (Pattern.compile("(?<![.\\w])" + method.group(3) + "\\(").matcher(method.group(4)).find()) {
                recursive++;
                check(method.group(3) + "() calls itself and is private", method.group(2).contains("private"));
            }
        }
        check("methods were found", many > 100);
        due.is("methods that call themselves", recursive, 1);
    }

    private static void check(String told, boolean holds) {
        due.is(told, holds ? 1 : 0, 1);
    }
}
