import java.io.IOException;
import java.lang.management.ManagementFactory;
import java.lang.reflect.Field;
import java.lang.reflect.Method;
import java.lang.reflect.Modifier;
import java.nio.file.Files;
import java.nio.file.Path;
import java.util.Arrays;
import java.util.HashSet;
import java.util.List;
import java.util.Set;
import java.util.regex.Matcher;
import java.util.regex.Pattern;

/** The face, the rules of LANGUAGE.md that can be looked up, and what a long run makes. */
public final class RulesTest {
    private static final Checks DUE = new Checks();
    private static final String FACE = "int count(int) int lay(int,int) int under(int) int feed(int,int,int,int,int,int)"
        + " int text() int force(int) int asks(int,int,int) int person(int,int) int put(int,int,int) int told(int,int)"
        + " int day() int leaves(int,int,int) int run(int,int) int sinks(int,int) int walk(int,int,int)"
        + " int tread(int,int) int way(int,int,int,int) long heap(int,int,int) int room(int,int) int turn(int,int)"
        + " int seats(int,int,int) int judge(int,int) int kinds(int,int,int,int) long where(int,int,int)"
        + " int holds(int,int,int,int) int laws(int,int) int film(int,int,int) int drawn(int,int,int,int)"
        + " long odds(int,int,int,int,int) long share(int,int) int image() int back() int sheet(int,int,int)"
        + " int cell(int,int,int) int copy(int,int,int,int,int) int peopleBy(int,int,int,int) int taken(int,int)";

    public static void main(String[] args) throws IOException {
        face();
        classesInside();
        words();
        whatARunMakes();
        DUE.end();
    }

    private static void face() {
        Class<?> face = UnderlayOfUnspoken.class;
        DUE.holds("public and final", Modifier.isPublic(face.getModifiers()) && Modifier.isFinal(face.getModifiers()));
        DUE.same("constructors", face.getDeclaredConstructors().length, 1);
        Set<String> due = new HashSet<>(Arrays.asList(FACE.split(" (?=int |long )")));
        Set<String> found = new HashSet<>();
        for (Method method : face.getDeclaredMethods()) {
            if (!Modifier.isPrivate(method.getModifiers())) {
                StringBuilder form = new StringBuilder(method.getReturnType() + " " + method.getName() + "(");
                for (Class<?> type : method.getParameterTypes()) {
                    form.append(form.toString().endsWith("(") ? "" : ",").append(type);
                }
                found.add(form.append(")").toString());
                DUE.holds(method + " is public and no other", Modifier.isPublic(method.getModifiers())
                    && !Modifier.isStatic(method.getModifiers()));
            }
        }
        DUE.same("methods", due.size(), 38 - 1);
        DUE.holds("methods are " + found, found.equals(due));
        Set<String> constants = new HashSet<>();
        for (Field field : face.getDeclaredFields()) {
            if (!Modifier.isPrivate(field.getModifiers())) {
                constants.add(field.getType() + " " + field.getName());
            }
        }
        DUE.holds("constants are " + constants,
            constants.equals(Set.of("int NONE", "int BAD", "int STATE", "int FULL", "long NO")));
        DUE.same("NONE", UnderlayOfUnspoken.NONE, -1);
        DUE.same("BAD", UnderlayOfUnspoken.BAD, -2);
        DUE.same("STATE", UnderlayOfUnspoken.STATE, -3);
        DUE.same("FULL", UnderlayOfUnspoken.FULL, -4);
        DUE.same("NO", UnderlayOfUnspoken.NO, -4611686018427387904L);
    }

    private static void classesInside() {
        Class<?>[] inside = UnderlayOfUnspoken.class.getDeclaredClasses();
        DUE.holds("at most twelve classes", inside.length < 12);
        Set<String> names = new HashSet<>();
        for (Method method : UnderlayOfUnspoken.class.getDeclaredMethods()) {
            DUE.holds("the name " + method.getName() + " stands once", names.add(method.getName()));
            DUE.holds(method + " takes at most seven", method.getParameterCount() <= 7);
        }
        for (Class<?> type : inside) {
            DUE.holds(type + " is static and not public",
                Modifier.isStatic(type.getModifiers()) && !Modifier.isPublic(type.getModifiers()));
            for (Method method : type.getDeclaredMethods()) {
                DUE.holds(method + " bears no name of the face", !FACE.contains(" " + method.getName() + "("));
                DUE.holds(method + " takes at most seven", method.getParameterCount() <= 7);
            }
            long fields = Arrays.stream(type.getDeclaredFields()).filter(f -> !Modifier.isStatic(f.getModifiers())).count();
            DUE.holds(type + " has at most twenty fields", fields <= 20);
        }
    }

    private static void words() throws IOException {
        Path file = Path.of(System.getProperty("project.dir", "."), "src/main/java/UnderlayOfUnspoken.java");
        String code = Files.readString(file).replaceAll("(?s)/\\*.*?\\*/", "").replaceAll("//[^\n]*", "");
        for (String word : List.of("throw", "throws", "try", "catch", "finally", "assert", "synchronized", "float",
                "Object", "HashMap", "toString", "hashCode", "equals", "System\\.out", "Exact", "protected")) {
            DUE.holds("no " + word, !Pattern.compile("\\b" + word + "\\b").matcher(code).find());
        }
        DUE.holds("no lambda, no reference to a method, no annotation", !code.contains("->") && !code.contains("::")
            && !code.contains("@"));
        Matcher imports = Pattern.compile("import ([^;]*);").matcher(code);
        while (imports.find()) {
            DUE.holds("import " + imports.group(1), imports.group(1).equals("java.util.Arrays"));
        }
        Matcher library = Pattern.compile("\\b(?:Integer|Long|Math|System|Arrays|String|StringBuilder)\\.\\w+").matcher(code);
        Set<String> allowed = Set.of("Math.abs", "Math.max", "Math.min", "Long.bitCount", "System.arraycopy",
            "Arrays.fill", "Arrays.copyOf");
        while (library.find()) {
            DUE.holds("the library's " + library.group(), allowed.contains(library.group()));
        }
        DUE.holds("no byte above 127", code.chars().allMatch(c -> c < 128));
    }

    private static void whatARunMakes() {
        com.sun.management.ThreadMXBean bean = (com.sun.management.ThreadMXBean) ManagementFactory.getThreadMXBean();
        long before = bean.getCurrentThreadAllocatedBytes();
        UnderlayOfUnspoken x = new UnderlayOfUnspoken();
        for (int i = 0; i < 6; i++) {
            x.person(10 * i, 700 + 100 * i);
        }
        x.film(0, 7, 20);
        for (int i = 0; i < 50; i++) {
            x.holds(0, 7, 0, 0);
            x.where(0, 7, 0);
            x.odds(40, 0, 1499, 5, 0);
            x.seats(0, 20, 0);
            x.way(0, 35, 0, 0);
            x.room(0, 2);
            x.image();
            x.back();
            x.sheet(1, 2, 40);
        }
        long made = bean.getCurrentThreadAllocatedBytes() - before;
        DUE.holds("a long run makes little, not " + made + " bytes", made < 100_000);
    }
}
