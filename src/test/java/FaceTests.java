import java.lang.reflect.Constructor;
import java.lang.reflect.Field;
import java.lang.reflect.Method;
import java.lang.reflect.Modifier;
import java.nio.file.Files;
import java.nio.file.Path;
import java.util.List;
import java.util.Set;
import java.util.TreeSet;
import java.util.regex.Matcher;
import java.util.regex.Pattern;

/** The public face is the document's and no more, and the file keeps out what LANGUAGE.md leaves out. */
public final class FaceTests {
    private static final Path SOURCE = Path.of("src/main/java/WideningCracks.java");
    private static final String[] METHODS = {
        "int joint()", "int hold(int,int)", "int free(int)", "int crack(int,int,int,int,int)",
        "int widths(int,int,int,int,int)", "int width(int,int)", "int about(int,int)", "int at(int,int)",
        "long head(int,int)", "long flow(int,int)", "long in(int,int)", "long work(int)", "int rate(int)",
        "int step(int)", "int run(int)", "int ways(int)", "int through(int,int)", "int open()", "long eats(int)",
        "int told(int)", "int keep()", "int back()", "int core(int,int,int)", "int lose(int)", "int put(int,int,long)",
        "long cell(int,int,int)", "int copy(int,int,int,int,int)", "int tell(int)", "int judge(int)", "int as(int,int)",
        "int trace()", "int fault()"};
    private static final String[] FIELDS = {
        "int UNKNOWN", "int OUTSIDE", "int STATE", "int FULL", "int NONE", "long LOST"};
    private static final String[] LEFT_OUT = {
        "\\bthrow\\b", "\\bthrows\\b", "\\btry\\b", "\\bcatch\\b", "\\bsynchronized\\b", "\\bassert\\b", "->", "::", "@",
        "\\bpackage\\b", "Exact\\b", "\\bprotected\\b", "\\bdouble\\b", "\\bfloat\\b", "\\bimport (?!java\\.util\\.Arrays;)",
        "\\bSystem\\.(?!arraycopy\\()", "\\bMath\\.(?!(min|max|abs)\\()", "\\bArrays\\.(?!fill\\()", "\\[\\]\\[\\]\\["};

    private static final Pattern METHOD = Pattern.compile("( {4}| {8})(?!if|for|while|switch|do|else| )\\S.*\\) \\{");
    private static final int MOST_CLASSES = 12, MOST_FIELDS = 20, MOST_PARAMETERS = 7, MOST_LINES = 60;

    private static int wrong = 0;

    private static void due(String what, Object got, Object want) {
        if (!got.equals(want)) {
            wrong++;
            System.out.println(what + " is " + got + ", due is " + want);
        }
    }

    private static String signature(Method method) {
        StringBuilder text = new StringBuilder(method.getReturnType() + " " + method.getName() + "(");
        for (Class<?> type : method.getParameterTypes()) {
            text.append(text.charAt(text.length() - 1) == '(' ? "" : ",").append(type);
        }
        return text.append(')').toString();
    }

    private static void lookAtMethods() {
        Set<String> seen = new TreeSet<>();
        Set<String> publicNames = new TreeSet<>();
        for (Method method : WideningCracks.class.getDeclaredMethods()) {
            if (!Modifier.isPrivate(method.getModifiers())) {
                due(method + " public, no more", method.getModifiers(), Modifier.PUBLIC);
                seen.add(signature(method));
                publicNames.add(method.getName());
            }
        }
        due("methods", seen, new TreeSet<>(Set.of(METHODS)));
        for (Class<?> inside : WideningCracks.class.getDeclaredClasses()) {
            lookInside(inside, publicNames);
        }
        for (Method method : WideningCracks.class.getDeclaredMethods()) {
            boolean isPrivate = Modifier.isPrivate(method.getModifiers());
            due(method + " named as a public one", isPrivate && publicNames.contains(method.getName()), false);
        }
    }

    private static void lookInside(Class<?> inside, Set<String> publicNames) {
        due(inside + " static", Modifier.isStatic(inside.getModifiers()), true);
        due(inside + " public", Modifier.isPublic(inside.getModifiers()), false);
        for (Method method : inside.getDeclaredMethods()) {
            due(method + " named as a public one", publicNames.contains(method.getName()), false);
        }
    }

    private static void lookAtFields() {
        Set<String> seen = new TreeSet<>();
        for (Field field : WideningCracks.class.getDeclaredFields()) {
            int modifiers = field.getModifiers();
            if (!Modifier.isPrivate(modifiers)) {
                due(field + " a constant", modifiers, Modifier.PUBLIC | Modifier.STATIC | Modifier.FINAL);
                seen.add(field.getType() + " " + field.getName());
            }
            if (Modifier.isStatic(modifiers)) {
                due(field + " final", Modifier.isFinal(modifiers), true);
            }
        }
        due("constants", seen, new TreeSet<>(Set.of(FIELDS)));
    }

    private static void lookAtClass() {
        due("class", WideningCracks.class.getModifiers(), Modifier.PUBLIC | Modifier.FINAL);
        Constructor<?>[] constructors = WideningCracks.class.getDeclaredConstructors();
        due("constructors", constructors.length, 1);
        due("constructor", constructors[0].getModifiers(), Modifier.PUBLIC);
        due("constructor's parameters", constructors[0].getParameterCount(), 0);
    }

    /** Rules 5 and 11: static fields are final; how many parameters, fields and classes there are at most. */
    private static void lookAtSizes() {
        Class<?>[] insides = WideningCracks.class.getDeclaredClasses();
        due("at most twelve classes", insides.length + 1 <= MOST_CLASSES, true);
        lookAtSizeOf(WideningCracks.class);
        for (Class<?> inside : insides) {
            lookAtSizeOf(inside);
        }
    }

    private static void lookAtSizeOf(Class<?> one) {
        int fields = 0;
        for (Field field : one.getDeclaredFields()) {
            boolean isStatic = Modifier.isStatic(field.getModifiers());
            due(field + " final, if static", !isStatic || Modifier.isFinal(field.getModifiers()), true);
            fields += isStatic ? 0 : 1;
        }
        due("at most twenty fields of " + one, fields <= MOST_FIELDS, true);
        for (Method method : one.getDeclaredMethods()) {
            due("at most seven parameters of " + method, method.getParameterCount() <= MOST_PARAMETERS, true);
        }
        for (Constructor<?> constructor : one.getDeclaredConstructors()) {
            due("at most seven parameters of " + constructor, constructor.getParameterCount() <= MOST_PARAMETERS, true);
        }
    }

    /** Rule 11: methods stay short. A method begins at the depth of a class and ends with the next brace there. */
    private static void lookAtLengths() throws Exception {
        List<String> lines = Files.readAllLines(SOURCE);
        int methods = 0;
        for (int first = 0; first < lines.size(); first++) {
            Matcher begins = METHOD.matcher(lines.get(first));
            if (begins.matches()) {
                methods++;
                int last = first;
                while (last < lines.size() && !lines.get(last).equals(begins.group(1) + "}")) {
                    last++;
                }
                due("short: " + lines.get(first).trim(), last - first < MOST_LINES, true);
            }
        }
        due("methods were found", methods > METHODS.length, true);
    }

    private static void lookAtSource() throws Exception {
        String code = Files.readString(SOURCE).replaceAll("(?s)/\\*.*?\\*/", "").replaceAll("//.*", "");
        for (String word : LEFT_OUT) {
            due(word + " in the code", Pattern.compile(word).matcher(code).find(), false);
        }
    }

    public static void main(String[] args) throws Exception {
        lookAtClass();
        lookAtMethods();
        lookAtFields();
        lookAtSizes();
        lookAtLengths();
        lookAtSource();
        System.out.println(wrong == 0 ? "the face is as due" : wrong + " things are not as due");
        if (wrong != 0) {
            System.exit(1);
        }
    }
}
