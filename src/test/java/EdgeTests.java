import java.lang.reflect.Method;
import java.util.ArrayList;
import java.util.HashMap;
import java.util.List;
import java.util.Map;
import java.util.Set;
import java.util.regex.Matcher;
import java.util.regex.Pattern;

/**
 * A test of its own for each sentence of the document that names a boundary case, named by where the sentence stands.
 *
 * <p>Tests are runs of calls, written as text: {@code call = answer} with {@code ;} or a new line between them,
 * {@code * 6} for six times, and no answer where none is looked at. NULL, CAST, INDEX and SIZE stand for their answers;
 * behind each call that names faults, fault() is asked too. {@code taken} is any answer but a refusal or a fault, and
 * {@code head(1, _) = 62/3} asks for both numbers of a fraction.
 */
public final class EdgeTests {
    private static final int MOST_CALLS = 512;
    private static final Set<String> NAME_FAULTS = Set.of("widths", "core", "put", "cell", "copy", "as");
    private static final List<String> FAULTS = List.of("", "NULL", "CAST", "INDEX", "SIZE");
    private static final Map<String, Long> NUMBERS = new HashMap<>(Map.of(
        "UNKNOWN", -1L, "OUTSIDE", -2L, "STATE", -3L, "FULL", -4L, "NONE", -9L, "LOST", Long.MIN_VALUE,
        "NULL", -11L, "CAST", -12L, "INDEX", -13L, "SIZE", -14L));
    private static final Map<String, Method> CALLS = new HashMap<>();
    private static final Pattern CALL =
        Pattern.compile("(\\w+)\\(([^)]*)\\)(?: = (\\S+)(?: (NULL|CAST|INDEX|SIZE))?)?(?: \\* (\\d+))?");

    /**
     * Something of everything: joints that are held (0, 3), free (1) and dry (2); a crack of each kind and a shut one;
     * stores, two kept rocks, a trace; cores of ints (0, 3) and bytes (2), and one with nothing (1).
     */
    private static final String ROCK = """
        joint() * 4; hold(0, 90); hold(3, 10)
        crack(0, 1, 0, 3, 1); crack(1, 3, 1, 2, 2); crack(0, 1, 2, 5, 3)
        crack(1, 3, 3, 2, 2); crack(0, 3, 4, 1, 5); crack(1, 2, 0, 0, 12)
        rate(3); step(2); keep(); step(1); keep(); step(2); tell(1); judge(3)
        core(0, 2, 4); put(0, 0, 5); put(0, 1, 12); put(0, 3, 7)
        core(2, 0, 3); put(2, 2, -1)
        core(3, 2, 24); put(3, 0, 3); put(3, 23, 9)
        """;

    /** As many joints and cracks as there can be, so that FULL fits. */
    private static final String FULL_ROCK = """
        joint() * 6; hold(0, 100); hold(4, 50); hold(5, 0)
        crack(0, 1, 0, 3, 1); crack(1, 2, 1, 2, 2); crack(2, 3, 2, 5, 3); crack(3, 4, 3, 2, 4)
        crack(4, 5, 4, 1, 5); crack(5, 0, 0, 12, 6); crack(0, 2, 1, 12, 7); crack(1, 3, 2, 12, 8)
        crack(2, 4, 3, 11, 9); crack(3, 5, 4, 6, 10); crack(0, 3, 0, 0, 11); crack(1, 4, 1, 1, 12)
        rate(2); step(3); keep(); step(4); tell(1); judge(3); core(0, 2, 12); put(0, 11, 12)
        """;

    private static int wrong = 0;
    private static int asked = 0;
    private static int tests = 0;

    // ---- how tests are run

    private static void report(String text) {
        wrong++;
        System.out.println(text);
    }

    private static long number(String text) {
        Long named = NUMBERS.get(text);
        return named != null ? named : Long.parseLong(text);
    }

    private static int faultOf(String word) {
        return word == null ? 0 : Math.max(0, FAULTS.indexOf(word));
    }

    private static boolean isTaken(long answer) {
        return answer >= 0 || answer < -14 && answer != Long.MIN_VALUE || answer < -4 && answer > -11;
    }

    /** One object and the calls on it. */
    private static final class Run {
        final String sentence;
        final WideningCracks x = new WideningCracks();
        int calls = 0;

        Run(String sentence) {
            this.sentence = sentence;
        }

        long ask(String name, long... arguments) {
            calls++;
            if (calls > MOST_CALLS) {
                report(sentence + ": the test makes more calls than an object is used for");
            }
            Method method = CALLS.get(name);
            Object[] values = new Object[arguments.length];
            for (int k = 0; k < values.length; k++) {
                boolean isLong = method.getParameterTypes()[k] == long.class;
                values[k] = isLong ? (Object) arguments[k] : (Object) Math.toIntExact(arguments[k]);
            }
            try {
                return ((Number) method.invoke(x, values)).longValue();
            } catch (ReflectiveOperationException e) {
                throw new IllegalStateException(sentence + ": " + name + " threw", e);
            }
        }

        long ask(String name, String arguments) {
            String[] texts = arguments.isBlank() ? new String[0] : arguments.split(",");
            long[] values = new long[texts.length];
            for (int k = 0; k < values.length; k++) {
                values[k] = number(texts[k].trim());
            }
            return ask(name, values);
        }

        void due(String call, long got, long want) {
            asked++;
            if (got != want) {
                report(sentence + ": call " + calls + ", " + call + ", answered " + got + ", due is " + want);
            }
        }

        void dueAnswer(String call, long got, String want) {
            asked++;
            if (want.equals("taken") ? !isTaken(got) : got != number(want)) {
                report(sentence + ": call " + calls + ", " + call + ", answered " + got + ", due is " + want);
            }
        }

        void play(String text) {
            for (String call : text.split("[;\n]")) {
                if (!call.isBlank()) {
                    playCall(call.trim());
                }
            }
        }

        void playCall(String call) {
            Matcher parts = CALL.matcher(call);
            if (!parts.matches()) {
                throw new IllegalArgumentException(sentence + ": no call: " + call);
            }
            int times = parts.group(5) == null ? 1 : Integer.parseInt(parts.group(5));
            for (int done = 0; done < times; done++) {
                playOnce(call, parts);
            }
        }

        private void playOnce(String call, Matcher parts) {
            String name = parts.group(1);
            String arguments = parts.group(2);
            String want = parts.group(3);
            if (want == null) {
                ask(name, arguments);
            } else if (want.contains("/")) {
                for (int which = 0; which < 2; which++) {
                    long got = ask(name, arguments.replace("_", Integer.toString(which)));
                    dueAnswer(call, got, want.split("/")[which]);
                }
            } else {
                dueAnswer(call, ask(name, arguments), want);
                if (NAME_FAULTS.contains(name)) {
                    due(call + ", then fault()", ask("fault"), faultDue(parts));
                }
            }
        }
    }

    private static int faultDue(Matcher parts) {
        return Math.max(faultOf(parts.group(3)), faultOf(parts.group(4)));
    }

    private static void test(String sentence, String... texts) {
        tests++;
        Run run = new Run(sentence);
        for (String text : texts) {
            run.play(text);
        }
    }

    /** A call that is refused or comes to a fault: it answers so, and nothing but fault() is another behind it. */
    private static void unchanged(String sentence, String setup, String call) {
        Matcher parts = CALL.matcher(call);
        if (!parts.matches()) {
            throw new IllegalArgumentException(sentence + ": no call: " + call);
        }
        // Ahead of it stands another fault than the one that is due, so that one left standing shows.
        int due = faultDue(parts);
        int before = due == 1 ? 4 : 1;
        String setFault = due == 1 ? "core(0, 0, -1) = SIZE" : "put(1, 0, 0) = NULL";
        tests++;
        Run called = new Run(sentence);
        called.play(setup);
        called.play(setFault);
        called.playCall(call);
        called.due(call + ", then fault()", called.ask("fault"), NAME_FAULTS.contains(parts.group(1)) ? due : before);
        Run left = new Run(sentence);
        left.play(setup);
        left.play(setFault);
        List<String> seen = look(called);
        List<String> want = look(left);
        asked++;
        for (int k = 0; k < Math.max(seen.size(), want.size()); k++) {
            String got = k < seen.size() ? seen.get(k) : "nothing";
            String other = k < want.size() ? want.get(k) : "nothing";
            if (!got.equals(other)) {
                report(sentence + ": " + call + " changed something: " + got + ", without it " + other);
                return;
            }
        }
    }

    private static void unchangedEach(String sentence, String setup, String calls) {
        for (String call : calls.split("[;\n]")) {
            if (!call.isBlank()) {
                unchanged(sentence + " [" + call.trim() + "]", setup, call.trim());
            }
        }
    }

    /**
     * The limits of one number of a call, the # in it, on both sides: below | least: answer .. most: answer | above.
     * What is refused is refused just beyond and as far off as an int goes, and changes nothing.
     */
    private static void limits(String sentence, String setup, String call, String row) {
        String[] sides = row.split(" \\| ");
        String[] ends = sides[1].split(" \\.\\. ");
        String[] least = ends[0].split(": ");
        String[] most = ends[1].split(": ");
        for (String[] end : new String[][] {least, most}) {
            test(sentence + " [" + call + ", " + end[0] + "]", setup, call.replace("#", end[0]) + " = " + end[1]);
        }
        long[] belows = {number(least[0]) - 1, Integer.MIN_VALUE};
        long[] aboves = {number(most[0]) + 1, Integer.MAX_VALUE};
        for (int k = 0; k < 2; k++) {
            String below = call.replace("#", Long.toString(belows[k])) + " = " + sides[0];
            String above = call.replace("#", Long.toString(aboves[k])) + " = " + sides[2];
            unchanged(sentence + " [" + below + "]", setup, below);
            unchanged(sentence + " [" + above + "]", setup, above);
        }
    }

    // ---- all that can be seen of an object; it is used up, since what is kept shows only by going back

    private static List<String> look(Run run) {
        List<String> seen = new ArrayList<>();
        for (int what = 0; what < 8; what++) {
            see(run, seen, "told", what);
        }
        int joints = (int) run.ask("told", 0);
        int cracks = (int) run.ask("told", 1);
        lookAtJoints(run, seen, joints);
        lookAtCracks(run, seen, cracks);
        see(run, seen, "trace");
        see(run, seen, "work", 0);
        see(run, seen, "open");
        for (int t = 1; t <= 12; t += 3) {
            see(run, seen, "ways", t);
        }
        for (int k = 0; k < 4; k++) {
            lookAtCore(run, seen, k);
        }
        do {
            lookAtWidths(run, seen, cracks);
        } while (see(run, seen, "back") >= 0);
        see(run, seen, "step", 12);
        lookAtWidths(run, seen, cracks);
        return seen;
    }

    private static long see(Run run, List<String> seen, String name, long... arguments) {
        long answer = run.ask(name, arguments);
        StringBuilder text = new StringBuilder(name);
        for (long argument : arguments) {
            text.append(' ').append(argument);
        }
        seen.add(text + " = " + answer);
        return answer;
    }

    private static void lookAtJoints(Run run, List<String> seen, int joints) {
        for (int j = 0; j < joints; j++) {
            for (int what = 0; what < 4; what++) {
                see(run, seen, "at", j, what);
            }
            see(run, seen, "head", j, 0);
            see(run, seen, "in", j, 0);
        }
    }

    private static void lookAtCracks(Run run, List<String> seen, int cracks) {
        for (int c = 0; c < cracks; c++) {
            for (int what = 0; what < 7; what++) {
                see(run, seen, "about", c, what);
            }
            see(run, seen, "flow", c, 0);
            see(run, seen, "eats", c);
        }
    }

    private static void lookAtCore(Run run, List<String> seen, int k) {
        for (int lane = 0; lane < 4; lane++) {
            int i = 0;
            do {
                see(run, seen, "cell", k, i, lane);
                i++;
            } while (see(run, seen, "fault") == 0);
        }
    }

    private static void lookAtWidths(Run run, List<String> seen, int cracks) {
        see(run, seen, "told", 2);
        for (int c = 0; c < cracks; c++) {
            see(run, seen, "about", c, 3);
            see(run, seen, "about", c, 5);
        }
    }

    // ---- rocks of the tests

    /** Joint 0 held at a head, 1 at 0, and one crack from 0 to 1. */
    private static String single(int head, int kind, int width, int number) {
        return "joint() * 2; hold(0, " + head + "); hold(1, 0); crack(0, 1, " + kind + ", " + width + ", " + number + ");";
    }

    /** Joint 0 held at 60, 1 free, 2 held at 1; cracks 2 and 4 wide between them. */
    private static final String CHAIN =
        "joint() * 3; hold(0, 60); hold(2, 1); crack(0, 1, 0, 2, 1); crack(1, 2, 0, 4, 1);";

    /** Crack c is of kind c. */
    private static String kinds(int width, int number) {
        StringBuilder text = new StringBuilder("joint() * 2;");
        for (int kind = 0; kind < 5; kind++) {
            text.append("crack(0, 1, " + kind + ", " + width + ", " + number + ");");
        }
        return text.toString();
    }

    // ---- Terms: refusals

    private static void refusalsOrder() {
        String first = "Terms: REFUSALS, the first of these that fits";
        unchangedEach(first + ": UNKNOWN ahead of OUTSIDE", ROCK, """
            hold(4, 101) = UNKNOWN; hold(-1, -1) = UNKNOWN
            crack(4, 0, 5, 1, 1) = UNKNOWN; crack(0, 4, 0, 13, 1) = UNKNOWN; crack(-1, 0, 0, 1, 13) = UNKNOWN
            crack(4, 4, 0, 1, 1) = UNKNOWN; crack(-1, -1, 0, 1, 0) = UNKNOWN; crack(0, -1, -1, -1, 0) = UNKNOWN
            widths(4, 4, 0, 1, 0) = UNKNOWN; widths(0, 4, 0, 1, 6) = UNKNOWN; widths(-1, -1, 0, 1, -1) = UNKNOWN
            width(6, 13) = UNKNOWN; width(-1, -1) = UNKNOWN
            about(6, 7) = UNKNOWN; about(-1, -1) = UNKNOWN
            at(4, 4) = UNKNOWN; at(-1, -1) = UNKNOWN
            through(6, 13) = UNKNOWN; through(-1, 0) = UNKNOWN
            core(4, 4, 1) = UNKNOWN; core(-1, 0, 25) = UNKNOWN
            cell(4, 0, 4) = LOST; cell(-1, 0, -1) = LOST
            as(6, 5) = UNKNOWN; as(-1, -1) = UNKNOWN
            head(4, 2) = LOST; flow(6, 2) = LOST; in(4, 2) = LOST
            """);
        unchangedEach(first + ": OUTSIDE or UNKNOWN and STATE", ROCK, """
            head(2, 2) = LOST; head(2, -1) = LOST; in(1, 2) = LOST; in(1, -1) = LOST; in(2, 0) = LOST
            """);
        unchangedEach(first + ": UNKNOWN ahead of FULL", FULL_ROCK, """
            crack(6, 0, 0, 1, 1) = UNKNOWN; crack(0, 6, 0, 1, 1) = UNKNOWN; crack(-1, 0, 0, 1, 1) = UNKNOWN
            crack(6, 6, 5, 13, 13) = UNKNOWN
            """);
        unchangedEach(first + ": OUTSIDE ahead of FULL", FULL_ROCK, """
            crack(0, 0, 0, 1, 1) = OUTSIDE; crack(0, 1, 5, 1, 1) = OUTSIDE; crack(0, 1, -1, 1, 1) = OUTSIDE
            crack(0, 1, 0, 13, 1) = OUTSIDE; crack(0, 1, 0, -1, 1) = OUTSIDE
            crack(0, 1, 0, 1, 0) = OUTSIDE; crack(0, 1, 0, 1, 13) = OUTSIDE
            """);
    }

    private static void refusalsChangeNothing() {
        String nothing = "Terms: they change nothing";
        unchangedEach(nothing, FULL_ROCK, "joint() = FULL; crack(0, 1, 0, 1, 1) = FULL; crack(5, 4, 4, 12, 12) = FULL");
        unchangedEach(nothing, "joint(); hold(0, 3)", "back() = STATE");
        unchangedEach(nothing, "joint() * 2; crack(0, 1, 0, 12, 1)",
            "head(0, 0) = LOST; head(1, 1) = LOST; in(0, 0) = LOST");
        // Nothing at all is there yet.
        unchangedEach(nothing, "", """
            hold(0, 1) = UNKNOWN; free(0) = UNKNOWN; crack(0, 1, 0, 1, 1) = UNKNOWN; crack(0, 0, 0, 1, 1) = UNKNOWN
            widths(0, 0, 0, 0, 0) = UNKNOWN; width(0, 1) = UNKNOWN; about(0, 0) = UNKNOWN; at(0, 0) = UNKNOWN
            head(0, 0) = LOST; flow(0, 0) = LOST; in(0, 0) = LOST; through(0, 1) = UNKNOWN; eats(0) = LOST
            back() = STATE; tell(0) = UNKNOWN; judge(0) = UNKNOWN; as(0, 0) = UNKNOWN
            """);
    }

    private static void refusalsAndFault() {
        String sentence = "Terms: (but fault(), of a call that names FAULTS)";
        for (String refused : List.of("widths(4, 0, 0, 1, 0) = UNKNOWN", "widths(0, 2, 0, 1, 6) = UNKNOWN",
            "widths(0, 4, 0, 1, 0) = OUTSIDE", "core(4, 0, 1) = UNKNOWN", "core(0, 4, 1) = OUTSIDE",
            "core(0, 0, 25) = OUTSIDE", "put(4, 0, 1) = UNKNOWN", "cell(4, 0, 0) = LOST", "cell(0, 0, 4) = LOST",
            "copy(4, 0, 0, 0, 0) = UNKNOWN", "copy(0, 0, 4, 0, 0) = UNKNOWN", "as(6, 0) = UNKNOWN", "as(0, 5) = OUTSIDE")) {
            test(sentence, ROCK, "as(0, 4) = CAST; fault() = 2; " + refused + "; fault() = 0");
        }
        test(sentence + ": a WIDTH too", ROCK, "put(0, 3, 13); as(0, 4) = CAST; widths(0, 2, 3, 1, 0) = OUTSIDE",
            "fault() = 0");
        for (String other : List.of("joint()", "hold(0, 1)", "hold(9, 1)", "hold(0, 101)", "free(0)", "free(9)",
            "crack(0, 1, 0, 1, 1)", "crack(9, 1, 0, 1, 1)", "crack(0, 0, 0, 1, 1)", "width(0, 1)", "width(9, 1)",
            "width(0, 13)", "about(0, 0)", "about(9, 0)", "about(0, 9)", "at(0, 0)", "at(9, 0)", "at(0, 9)", "head(0, 0)",
            "head(9, 0)", "head(2, 0)", "flow(0, 0)", "flow(9, 0)", "in(0, 0)", "in(9, 0)", "in(1, 0)", "work(0)",
            "work(2)", "rate(1)", "rate(0)", "step(1)", "step(51)", "run(1)", "run(0)", "ways(1)", "ways(0)",
            "through(0, 1)", "through(9, 1)", "open()", "eats(0)", "eats(9)", "told(0)", "told(8)", "keep()", "back()",
            "back() * 3", "lose(0)", "lose(1)", "lose(9)", "tell(0)", "tell(9)", "judge(0)", "judge(9)", "trace()",
            "fault()")) {
            test("Promise 33: latest call that names one [" + other + "]", ROCK,
                "as(0, 4) = CAST; " + other + "; fault() = 2");
        }
    }

    // ---- Terms: faults

    private static void faultsNumbers() {
        test("Terms: 1 NULL (there is nothing)", "put(0, 0, 1) = NULL; fault() = 1; cell(0, 0, 0) = LOST NULL; fault() = 1",
            "joint() * 2; crack(0, 1, 0, 1, 1); widths(3, 3, 0, 0, 0) = NULL; copy(0, 0, 0, 0, 0) = NULL");
        test("Terms: 2 CAST (it is of another LANE, kind)", ROCK, "widths(0, 3, 0, 1, 0) = CAST",
            "copy(0, 0, 2, 0, 1) = CAST; as(0, 1) = CAST; cell(0, 0, 3) = LOST CAST; fault() = 2");
        test("Terms: 3 INDEX", ROCK, "put(0, 4, 1) = INDEX; copy(0, 4, 0, 0, 1) = INDEX; widths(0, 2, 4, 1, 0) = INDEX",
            "cell(0, 4, 2) = LOST INDEX; fault() = 3");
        test("Terms: 4 SIZE (a length below 0)", ROCK, "core(0, 0, -1) = SIZE; fault() = 4; widths(0, 2, 0, -1, 0) = SIZE",
            "fault() = 4");
    }

    private static void faultsOrder() {
        String first = "Terms: Of a call the first that is come to, in the order told";
        unchangedEach(first + ": UNKNOWN", ROCK, """
            widths(1, 2, 0, 1, 6) = UNKNOWN; widths(0, 3, 0, 1, 6) = UNKNOWN; widths(0, 2, 0, -1, 6) = UNKNOWN
            widths(0, 2, 9, 1, 6) = UNKNOWN; widths(0, 2, 0, 0, 6) = UNKNOWN; widths(0, 2, -1, -1, -1) = UNKNOWN
            core(4, 0, -1) = UNKNOWN; core(-1, 4, -1) = UNKNOWN
            put(4, -1, 1) = UNKNOWN; cell(4, -1, 0) = LOST; cell(-1, 24, 0) = LOST
            copy(4, 0, 1, 0, 0) = UNKNOWN; copy(1, 0, 4, 0, 0) = UNKNOWN; copy(-1, -1, 0, 0, 0) = UNKNOWN
            copy(0, -1, -1, 0, -1) = UNKNOWN; as(6, 1) = UNKNOWN; as(-1, 4) = UNKNOWN
            """);
        unchangedEach(first + ": OUTSIDE", ROCK, """
            widths(0, 4, 0, 1, 0) = OUTSIDE; widths(1, 4, 0, 1, 0) = OUTSIDE; widths(0, -1, 0, -1, 0) = OUTSIDE
            widths(0, 4, 9, 9, 0) = OUTSIDE; widths(1, -1, -1, -1, 0) = OUTSIDE
            core(0, 4, -1) = OUTSIDE; core(0, -1, -1) = OUTSIDE
            cell(0, -1, 4) = LOST; cell(1, 0, 4) = LOST; cell(1, -1, -1) = LOST; as(0, 5) = OUTSIDE; as(0, -1) = OUTSIDE
            """);
        unchangedEach(first + ": NULL", ROCK, """
            put(1, -1, 1) = NULL; put(1, 24, 1) = NULL
            widths(1, 2, 0, -1, 0) = NULL; widths(1, 2, -1, 1, 0) = NULL; widths(1, 2, 0, 9, 0) = NULL
            cell(1, -1, 0) = LOST NULL; cell(1, 24, 3) = LOST NULL
            copy(1, 0, 2, 0, 0) = NULL; copy(2, 0, 1, 0, 0) = NULL; copy(1, 0, 1, 0, 0) = NULL
            copy(1, -1, 0, 0, 0) = NULL; copy(0, -1, 1, 0, 0) = NULL
            copy(0, 0, 1, -1, 0) = NULL; copy(0, 0, 1, 0, -1) = NULL
            """);
        unchangedEach(first + ": CAST", ROCK, """
            widths(0, 3, 0, -1, 0) = CAST; widths(0, 1, -1, 1, 0) = CAST; widths(0, 0, 0, 9, 0) = CAST
            cell(0, -1, 3) = LOST CAST; cell(0, 4, 0) = LOST CAST; cell(2, 3, 1) = LOST CAST
            copy(0, -1, 2, 0, 1) = CAST; copy(0, 0, 2, -1, 1) = CAST; copy(0, 0, 2, 0, -1) = CAST; copy(2, 0, 0, 0, 9) = CAST
            copy(0, 0, 2, 0, 0) = CAST
            """);
        unchangedEach(first + ": SIZE ahead of INDEX", ROCK, """
            widths(0, 2, -1, -1, 0) = SIZE; widths(0, 2, 5, -1, 0) = SIZE; widths(0, 2, 0, -1, 5) = SIZE
            """);
        String wrongWidths = ROCK + "put(0, 0, 13); put(0, 3, -1); put(3, 0, 13); put(2, 0, 13)";
        unchangedEach(first + ": then OUTSIDE: a WIDTH", wrongWidths, """
            widths(0, 2, 3, 2, 0) = INDEX; widths(0, 2, 0, 5, 0) = INDEX; widths(3, 2, 0, 7, 0) = INDEX
            widths(3, 2, 0, 2, 5) = INDEX; widths(2, 2, 0, 1, 0) = CAST; widths(0, 2, 0, -1, 0) = SIZE
            widths(0, 2, 0, 1, 0) = OUTSIDE; widths(0, 2, 0, 4, 0) = OUTSIDE; widths(2, 0, 0, 1, 5) = OUTSIDE
            """);
    }

    private static void faultsChangeNothing() {
        unchangedEach("Terms: it answers -10 less it (LOST, where a long is answered) and changes nothing", ROCK, """
            widths(1, 0, 0, 0, 0) = NULL; widths(0, 0, 0, 1, 0) = CAST; widths(0, 2, 0, -1, 0) = SIZE
            widths(0, 2, 0, 5, 0) = INDEX; widths(0, 2, 0, 4, 3) = INDEX
            core(0, 0, -1) = SIZE; core(1, 3, -1) = SIZE; put(1, 0, 5) = NULL; put(0, 4, 5) = INDEX
            cell(1, 0, 0) = LOST NULL; cell(0, 0, 3) = LOST CAST; cell(0, 4, 2) = LOST INDEX
            copy(1, 0, 0, 0, 1) = NULL; copy(0, 0, 1, 0, 1) = NULL; copy(0, 0, 2, 0, 1) = CAST; copy(0, 0, 3, 21, 4) = INDEX
            as(0, 4) = CAST
            """);
    }

    // ---- part 1: the rock

    private static void p01NewObject() {
        test("Promise 1: No JOINTS", "told(0) = 0; told(4) = 0; told(5) = 0; at(0, 0) = UNKNOWN; joint() = 0");
        test("Promise 1: No CRACKS", "told(1) = 0; told(6) = 0; told(7) = 0; about(0, 0) = UNKNOWN; joint() * 2",
            "crack(0, 1, 0, 0, 1) = 0");
        test("Promise 1: No CORES", "lose(0) = 0; lose(1) = 0; lose(2) = 0; lose(3) = 0; put(0, 0, 0) = NULL",
            "cell(3, 0, 3) = LOST NULL");
        test("Promise 1: RATE 10", "told(3) = 10; rate(10) = 10", single(1, 0, 1, 1), "eats(0) = 10");
        test("Promise 1: no STEPS", "told(2) = 0; step(0) = 0; told(2) = 0; step(1) = 0; told(2) = 1");
        test("Terms: TRACE 0 at first; nothing is kept; no FAULT", "trace() = 0; back() = STATE; fault() = 0");
    }

    private static void p02Joint() {
        test("Promise 2: its number", "joint() = 0; joint() = 1; joint() = 2; joint() = 3; joint() = 4; joint() = 5",
            "told(0) = 6");
        test("Terms: JOINTS, 6 ever", "joint() = 0; joint() * 4; joint() = 5; joint() = FULL; joint() = FULL; told(0) = 6",
            "hold(0, 1); free(0); joint() = FULL; hold(5, 1) = 1; hold(6, 1) = UNKNOWN");
        test("Terms: numbered as they come", "hold(0, 1) = UNKNOWN; joint() = 0; hold(0, 1) = 1; hold(1, 1) = UNKNOWN",
            "joint() = 1; hold(1, 1) = 1");
        test("Promise 2: FREE", "joint(); at(0, 0) = 0; at(0, 1) = NONE; at(0, 2) = 1; at(0, 3) = 0; free(0) = 0",
            "head(0, 0) = LOST; hold(0, 4); joint(); at(1, 0) = 0; told(4) = 1; told(5) = 1");
    }

    private static void p03Hold() {
        limits("Promise 3: UNKNOWN", ROCK, "hold(#, 5)", "UNKNOWN | 0: 1 .. 3: 1 | UNKNOWN");
        limits("Promise 3: UNKNOWN, six JOINTS", FULL_ROCK, "hold(#, 5)", "UNKNOWN | 0: 1 .. 5: 1 | UNKNOWN");
        limits("Terms: HELD at a HEAD (0 .. 100)", ROCK, "hold(1, #)", "OUTSIDE | 0: 1 .. 100: 1 | OUTSIDE");
        test("Promise 3: at 0 and at 100", "joint(); hold(0, 0) = 1; at(0, 0) = 1; at(0, 1) = 0; head(0, _) = 0/1",
            "hold(0, 100) = 1; at(0, 1) = 100; head(0, _) = 100/1; hold(0, 100) = 1; hold(0, 0) = 1; at(0, 1) = 0");
    }

    private static void p04Free() {
        limits("Promise 4: UNKNOWN", ROCK, "free(#)", "UNKNOWN | 0: 1 .. 3: 1 | UNKNOWN");
        limits("Promise 4: UNKNOWN, six JOINTS", FULL_ROCK, "free(#)", "UNKNOWN | 0: 1 .. 5: 1 | UNKNOWN");
        test("Promise 4: 1; 0: it was", "joint(); free(0) = 0; hold(0, 0); free(0) = 1; free(0) = 0; at(0, 0) = 0",
            "at(0, 1) = NONE; told(4) = 0");
        test("Promise 4: a HEAD does not stay", "joint() * 2; hold(0, 100); crack(0, 1, 0, 1, 1); free(0)",
            "head(0, 0) = LOST; head(1, 0) = LOST; in(0, 0) = LOST; at(0, 2) = 1; hold(1, 5); head(0, _) = 5/1");
    }

    private static void p05Crack() {
        limits("Promise 5: UNKNOWN: a", ROCK, "crack(#, 1, 0, 1, 1)", "UNKNOWN | 0: 6 .. 3: 6 | UNKNOWN");
        limits("Promise 5: UNKNOWN: b", ROCK, "crack(1, #, 0, 1, 1)", "UNKNOWN | 0: 6 .. 3: 6 | UNKNOWN");
        limits("Promise 5: OUTSIDE: kind", ROCK, "crack(0, 1, #, 1, 1)", "OUTSIDE | 0: 6 .. 4: 6 | OUTSIDE");
        limits("Terms: a WIDTH (0 .. 12)", ROCK, "crack(0, 1, 0, #, 1)", "OUTSIDE | 0: 6 .. 12: 6 | OUTSIDE");
        limits("Terms: a NUMBER (1 .. 12)", ROCK, "crack(0, 1, 0, 1, #)", "OUTSIDE | 1: 6 .. 12: 6 | OUTSIDE");
        for (int kind = 0; kind < 5; kind++) {
            limits("Terms: a NUMBER (1 .. 12), of each kind", ROCK, "crack(0, 1, " + kind + ", 1, #)",
                "OUTSIDE | 1: 6 .. 12: 6 | OUTSIDE");
        }
        unchangedEach("Promise 5: OUTSIDE: a is b", ROCK,
            "crack(0, 0, 0, 1, 1) = OUTSIDE; crack(3, 3, 4, 12, 12) = OUTSIDE");
        test("Terms: each from one JOINT to another one", "joint() * 2; crack(0, 1, 0, 1, 1) = 0; crack(1, 0, 0, 1, 1) = 1",
            "crack(0, 1, 0, 1, 1) = 2; about(0, 0) = 0; about(0, 1) = 1; about(1, 0) = 1; about(1, 1) = 0; at(0, 3) = 3",
            "at(1, 3) = 3");
        test("Terms: CRACKS, 12 ever", "joint() * 6; crack(0, 1, 0, 0, 1) = 0; crack(0, 1, 1, 0, 1) * 10",
            "crack(4, 5, 4, 12, 12) = 11; crack(0, 1, 0, 1, 1) = FULL; crack(0, 1, 0, 1, 1) = FULL; told(1) = 12",
            "about(11, 1) = 5; about(12, 1) = UNKNOWN");
        test("Terms: numbered as they come", "joint() * 2; about(0, 4) = UNKNOWN; crack(0, 1, 0, 1, 7) = 0",
            "about(0, 4) = 7; about(1, 4) = UNKNOWN");
        test("Terms: a STORE, 0 at first", "joint() * 2; hold(0, 9); crack(0, 1, 1, 3, 1) = 0; about(0, 5) = 0");
    }

    private static void p06Widths() {
        limits("Promise 6: UNKNOWN: core", ROCK, "widths(#, 2, 0, 1, 0)", "UNKNOWN | 0: 1 .. 3: 1 | UNKNOWN");
        limits("Promise 6: c is no CRACK", ROCK, "widths(0, 2, 0, 1, #)", "UNKNOWN | 0: 1 .. 5: 1 | UNKNOWN");
        limits("Promise 6: c is no CRACK, twelve", FULL_ROCK, "widths(0, 2, 11, 1, #)", "UNKNOWN | 0: 1 .. 11: 1 | UNKNOWN");
        limits("Promise 6: OUTSIDE: lane", ROCK, "widths(0, #, 0, 1, 0)", "OUTSIDE | 0: CAST .. 3: CAST | OUTSIDE");
        limits("Promise 6: INDEX: cells that are not", ROCK, "widths(0, 2, #, 1, 0)", "INDEX | 0: 1 .. 3: 1 | INDEX");
        limits("Promise 6: INDEX: cells that are not, of 24", ROCK, "widths(3, 2, #, 1, 0)",
            "INDEX | 0: 1 .. 23: 1 | INDEX");
        limits("Promise 6: INDEX: cells, none of them taken", ROCK, "widths(0, 2, #, 0, 0)", "INDEX | 0: 0 .. 4: 0 | INDEX");
        limits("Promise 6: SIZE: n below 0; INDEX: cells", ROCK, "widths(0, 2, 0, #, 0)", "SIZE | 0: 0 .. 4: 4 | INDEX");
        limits("Promise 6: INDEX: cells, from the last", ROCK, "widths(0, 2, 3, #, 0)", "SIZE | 0: 0 .. 1: 1 | INDEX");
        limits("Promise 6: INDEX: CRACKS", ROCK, "widths(3, 2, 0, #, 0)", "SIZE | 0: 0 .. 6: 6 | INDEX");
        limits("Promise 6: INDEX: CRACKS, from the last", ROCK, "widths(3, 2, 0, #, 5)", "SIZE | 0: 0 .. 1: 1 | INDEX");
        limits("Promise 6: all CRACKS, all cells", FULL_ROCK, "widths(0, 2, 0, #, 0)", "SIZE | 0: 0 .. 12: 12 | INDEX");
        p06WidthsOfCells();
    }

    private static void p06WidthsOfCells() {
        String sentence = "Promise 6: then OUTSIDE: a WIDTH";
        for (int lane = 0; lane < 4; lane++) {
            String row = ROCK + "core(0, " + lane + ", 3);";
            String call = "widths(0, " + lane + ", 0, 3, 2)";
            test(sentence + ", 0 and 12 are ones", row, "put(0, 0, 12); put(0, 1, 0); put(0, 2, 1);" + call + " = 3",
                "about(2, 3) = 12; about(3, 3) = 0; about(4, 3) = 1");
            for (int cell = 0; cell < 3; cell++) {
                unchanged(sentence + ", 13", row + "put(0, " + cell + ", 13)", call + " = OUTSIDE");
                unchanged(sentence + ", -1", row + "put(0, " + cell + ", -1)", call + " = OUTSIDE");
            }
        }
        test(sentence + ", only of cells i .. i + n - 1", single(1, 0, 1, 1), "core(0, 2, 3); put(0, 0, 13); put(0, 1, 5)",
            "put(0, 2, -1); widths(0, 2, 1, 1, 0) = 1; about(0, 3) = 5; widths(0, 2, 0, 0, 0) = 0",
            "widths(0, 2, 2, 0, 0) = 0; widths(0, 2, 0, 1, 0) = OUTSIDE; widths(0, 2, 2, 1, 0) = OUTSIDE");
        test(sentence + ", after the cell was cut", single(1, 0, 1, 1), "core(0, 0, 1); put(0, 0, 268)",
            "widths(0, 0, 0, 1, 0) = 1; about(0, 3) = 12; core(0, 2, 1); put(0, 0, 4294967303); widths(0, 2, 0, 1, 0) = 1",
            "about(0, 3) = 7");
        unchanged(sentence + ", a long is not cut", ROCK + "core(0, 3, 1); put(0, 0, 4294967301)",
            "widths(0, 3, 0, 1, 0) = OUTSIDE");
        for (int lane = 0; lane < 4; lane++) {
            unchanged("Promise 6: (nothing is no CAST); NULL", ROCK, "widths(1, " + lane + ", 0, 1, 0) = NULL");
        }
        String stores = """
            joint() * 2; hold(0, 9); hold(1, 0); crack(0, 1, 0, 1, 1) * 3; step(1)
            core(0, 2, 3); put(0, 0, 1); put(0, 1, 1); put(0, 2, 5)
            """;
        test("Promise 6: STORES 0", stores, "about(0, 5) = 90; widths(0, 2, 1, 2, 1) = 2; about(0, 5) = 90",
            "about(1, 5) = 0; about(2, 5) = 0; about(0, 3) = 1; about(1, 3) = 1; about(2, 3) = 5; flow(2, 0) = 45",
            "told(7) = 7");
        test("Promise 6: n of 0", stores, "widths(0, 2, 0, 0, 0) = 0; widths(0, 2, 3, 0, 2) = 0; about(0, 5) = 90",
            "about(1, 5) = 90; about(2, 5) = 90; told(7) = 3");
        unchanged("Promise 6: n of 0, an empty row", ROCK + "core(0, 1, 0)", "widths(0, 1, 0, 0, 5) = 0");
        unchanged("Promise 6: INDEX: an empty row", ROCK + "core(0, 1, 0)", "widths(0, 1, 0, 1, 5) = INDEX");
        unchanged("Promise 6: INDEX: no sum wraps", ROCK, "widths(0, 2, 2147483647, 2147483647, 5) = INDEX");
        unchanged("Promise 6: INDEX: no sum wraps", ROCK, "widths(0, 2, 1, 2147483647, 5) = INDEX");
    }

    private static void p07Width() {
        limits("Promise 7: UNKNOWN", ROCK, "width(#, 1)", "UNKNOWN | 0: taken .. 5: taken | UNKNOWN");
        limits("Promise 7: UNKNOWN, twelve CRACKS", FULL_ROCK, "width(#, 1)", "UNKNOWN | 0: taken .. 11: taken | UNKNOWN");
        limits("Promise 7: OUTSIDE", ROCK, "width(0, #)", "OUTSIDE | 0: taken .. 12: taken | OUTSIDE");
        test("Promise 7: what it was", single(1, 0, 0, 1), "width(0, 12) = 0; width(0, 12) = 12; width(0, 0) = 12",
            "width(0, 0) = 0; width(0, 7) = 0; about(0, 3) = 7");
        test("Promise 7: its STORE 0", single(9, 0, 1, 1), "step(1); about(0, 5) = 90; width(0, 1) = 1; about(0, 5) = 0");
        test("Promise 7: beyond a TUBE's NUMBER too", single(9, 4, 1, 2), "width(0, 12) = 1; about(0, 3) = 12",
            "about(0, 6) = 144");
    }

    private static void p08About() {
        limits("Promise 8: UNKNOWN", ROCK, "about(#, 0)", "UNKNOWN | 0: 0 .. 5: 1 | UNKNOWN");
        limits("Promise 8: UNKNOWN, twelve CRACKS", FULL_ROCK, "about(#, 4)", "UNKNOWN | 0: 1 .. 11: 12 | UNKNOWN");
        limits("Promise 8: OUTSIDE", ROCK, "about(4, #)", "OUTSIDE | 0: 0 .. 6: taken | OUTSIDE");
        int[][] lets = {{0, 1, 2, 12}, {0, 1, 4, 144}, {0, 1, 2, 12}, {0, 1, 4, 144}, {0, 1, 4, 144}};
        int[] widths = {0, 1, 2, 12};
        for (int kind = 0; kind < 5; kind++) {
            for (int k = 0; k < 4; k++) {
                test("Promise 8: 6 what it LETS, of kind " + kind, single(1, kind, widths[k], 1), "about(0, 2) = " + kind,
                    "about(0, 6) = " + lets[kind][k]);
            }
        }
        test("Promise 8: in the order told", "joint() * 6; crack(5, 4, 3, 12, 11); about(0, 0) = 5; about(0, 1) = 4",
            "about(0, 2) = 3; about(0, 3) = 12; about(0, 4) = 11; about(0, 5) = 0; about(0, 6) = 144");
    }

    private static void p09At() {
        limits("Promise 9: UNKNOWN", ROCK, "at(#, 1)", "UNKNOWN | 0: 90 .. 3: 10 | UNKNOWN");
        limits("Promise 9: UNKNOWN, six JOINTS", FULL_ROCK, "at(#, 0)", "UNKNOWN | 0: 1 .. 5: 1 | UNKNOWN");
        limits("Promise 9: OUTSIDE", ROCK, "at(0, #)", "OUTSIDE | 0: 1 .. 3: 3 | OUTSIDE");
        test("Promise 9: (NONE)", "joint(); at(0, 1) = NONE; hold(0, 0); at(0, 1) = 0; free(0); at(0, 1) = NONE");
        test("Terms: It is OPEN, if its WIDTH is above 0", single(5, 0, 0, 1), "at(0, 3) = 0; at(1, 3) = 0; told(6) = 0",
            "width(0, 1); at(0, 3) = 1; at(1, 3) = 1; told(6) = 1");
        test("Promise 9: 3 at it, from either end", "joint() * 3; crack(0, 1, 0, 1, 1); crack(2, 1, 1, 12, 1)",
            "crack(1, 0, 2, 0, 1); at(0, 3) = 1; at(1, 3) = 2; at(2, 3) = 1");
        String line = """
            joint() * 6; hold(0, 7); crack(0, 1, 0, 1, 1); crack(2, 1, 0, 1, 1); crack(2, 3, 0, 1, 1)
            crack(4, 3, 0, 1, 1); crack(4, 5, 0, 1, 1)
            """;
        test("Terms: no OPEN CRACKS lead from a HELD one (by JOINTS between, too) is DRY", line, "at(5, 2) = 0",
            "told(5) = 0; head(5, _) = 7/1; width(2, 0); at(2, 2) = 0; at(3, 2) = 1; at(4, 2) = 1; at(5, 2) = 1",
            "told(5) = 3; at(5, 3) = 1; head(5, 0) = LOST; head(3, 1) = LOST; hold(5, 1); told(5) = 0; head(3, _) = 1/1",
            "free(0); told(5) = 3; at(0, 2) = 1; free(5); told(5) = 6");
        test("Terms: A FREE JOINT is DRY, a HELD one never", "joint(); at(0, 2) = 1; hold(0, 0); at(0, 2) = 0; told(5) = 0",
            "head(0, _) = 0/1");
    }

    private static void p10Head() {
        limits("Promise 10: LOST: UNKNOWN", ROCK, "head(#, 1)", "LOST | 0: 1 .. 3: 1 | LOST");
        limits("Promise 10: LOST: UNKNOWN, six JOINTS", FULL_ROCK, "head(#, 1)", "LOST | 0: 1 .. 5: 1 | LOST");
        limits("Promise 10: LOST: OUTSIDE", ROCK, "head(0, #)", "LOST | 0: 90 .. 1: 1 | LOST");
        unchangedEach("Promise 10: STATE: it is DRY", ROCK, "head(2, 0) = LOST; head(2, 1) = LOST");
        test("Promise 10: STATE ends with an OPEN CRACK", ROCK, "head(2, 0) = LOST; width(5, 1); head(2, 0) = taken",
            "width(5, 0); head(2, 0) = LOST");
        test("Terms: told in lowest terms, the lower number above 0", CHAIN, "head(0, _) = 60/1; head(1, _) = 62/3",
            "head(2, _) = 1/1; hold(2, 0); head(1, _) = 20/1; hold(0, 0); head(1, _) = 0/1");
        test("Terms: a FREE one gets as much as it gives, at a dead end", CHAIN, "joint(); crack(1, 3, 1, 12, 1)",
            "head(3, _) = 62/3; flow(2, _) = 0/1");
        test("Terms: HEADS between 0 and 100, all WIDTHS 12", "joint() * 6; hold(0, 100); hold(5, 0)",
            "crack(0, 1, 1, 12, 1); crack(1, 2, 1, 12, 1); crack(2, 3, 1, 12, 1); crack(3, 4, 1, 12, 1)",
            "crack(4, 5, 1, 12, 1); head(1, _) = 80/1; head(4, _) = 20/1; width(0, 11); head(1, _) = 12100/157",
            "head(5, _) = 0/1");
        test("Terms: HEADS as they are, behind each call that moves them", CHAIN, "head(1, _) = 62/3; crack(0, 1, 0, 2, 1)",
            "head(1, _) = 61/2; width(2, 0); head(1, _) = 62/3; hold(0, 0); head(1, _) = 2/3; keep(); core(0, 2, 1)",
            "widths(0, 2, 0, 1, 0); head(1, _) = 1/1; back(); head(1, _) = 2/3; free(2); head(1, _) = 0/1; hold(2, 60)",
            "rate(100); head(1, _) = 40/1; step(1) = 2; head(1, _) = 360/11; joint() = 3; head(1, _) = 360/11",
            "head(3, 0) = LOST");
        headsBehindTwoCalls();
        greatestNumbers();
        test("Terms: two parts of THE ROCK apart", "joint() * 4; hold(0, 100); hold(3, 1); crack(0, 1, 0, 12, 1)",
            "crack(2, 3, 0, 1, 1); head(1, _) = 100/1; head(2, _) = 1/1; flow(0, _) = 0/1; flow(1, _) = 0/1");
    }

    /** Nothing is asked between the two calls, so that one must not hide from the heads what the other moved. */
    private static void headsBehindTwoCalls() {
        String chain = CHAIN + "rate(100); keep(); core(0, 2, 1); put(0, 0, 4); head(1, _) = 62/3;";
        for (String calls : List.of(
            "step(1) = 2; width(0, 11); head(1, _) = 61/2", "step(1) = 2; hold(0, 0); head(1, _) = 11/20",
            "step(1) = 2; crack(0, 1, 0, 2, 1); head(1, _) = 61/2", "step(1) = 2; free(2); head(1, _) = 60/1",
            "step(1) = 2; back(); head(1, _) = 62/3", "step(1) = 2; joint(); head(1, _) = 551/20",
            "width(0, 4); hold(0, 0); head(1, _) = 1/2", "hold(0, 0); width(0, 4); head(1, _) = 1/2",
            "width(0, 4); crack(0, 1, 0, 4, 1); head(1, _) = 121/3", "width(0, 4); free(2); head(1, _) = 60/1",
            "width(0, 4); joint(); head(1, _) = 61/2", "width(0, 4); back(); head(1, _) = 62/3",
            "crack(0, 1, 0, 2, 1); hold(0, 0); head(1, _) = 1/2", "crack(0, 1, 0, 2, 1); free(0); head(1, _) = 1/1",
            "crack(0, 1, 0, 2, 1); joint(); head(1, _) = 61/2", "hold(0, 0); joint(); head(1, _) = 2/3",
            "free(0); joint(); head(1, _) = 1/1", "hold(0, 0); free(2); head(1, _) = 0/1",
            "widths(0, 2, 0, 1, 0) = 1; hold(0, 0); head(1, _) = 1/2",
            "widths(0, 2, 0, 1, 0) = 1; joint(); head(1, _) = 61/2")) {
            test("Terms: HEADS as they are, behind two calls", chain, calls);
        }
    }

    /** Among the greatest numbers that fractions come to; reckoned apart from this program. */
    private static void greatestNumbers() {
        test("Terms: All as fractions", "joint() * 6; hold(0, 100); hold(5, 3); crack(4, 0, 1, 12, 1)",
            "crack(5, 2, 1, 11, 1); crack(3, 5, 1, 12, 1); crack(5, 0, 1, 12, 1); crack(5, 1, 1, 12, 1)",
            "crack(1, 0, 1, 12, 1); crack(5, 4, 1, 12, 1); crack(2, 0, 1, 11, 1); crack(1, 2, 1, 12, 1)",
            "crack(4, 3, 1, 11, 1); crack(3, 2, 1, 11, 1); crack(1, 3, 1, 11, 1); head(1, _) = 1936208324311/41965324658",
            "head(3, _) = 1419578266327/41965324658; flow(0, _) = -162340303503816/20982662329",
            "flow(1, _) = -217124011265161/41965324658; flow(3, _) = -13968/1; flow(9, _) = 31594779596160/20982662329",
            "in(0, _) = 1511761942450777/41965324658; in(5, _) = -1511761942450777/41965324658",
            "work(_) = 146640908417725369/41965324658; rate(100); eats(0) = 773687; eats(1) = 517389; eats(3) = 1396800",
            "eats(8) = 5455; eats(9) = 150575");
    }

    private static void p11Flow() {
        limits("Promise 11: LOST: UNKNOWN", ROCK, "flow(#, 1)", "LOST | 0: taken .. 5: 1 | LOST");
        limits("Promise 11: LOST: UNKNOWN, twelve CRACKS", FULL_ROCK, "flow(#, 1)", "LOST | 0: taken .. 11: taken | LOST");
        limits("Promise 11: LOST: OUTSIDE", ROCK, "flow(5, #)", "LOST | 0: 0 .. 1: 1 | LOST");
        test("Terms: FLOW 0, if it is shut", single(100, 1, 0, 1), "flow(0, _) = 0/1; width(0, 1); flow(0, _) = 100/1",
            "width(0, 0); flow(0, _) = 0/1");
        test("Terms: FLOW 0, if a JOINT of it is DRY", "joint() * 3; crack(0, 1, 0, 5, 1); flow(0, _) = 0/1; hold(2, 100)",
            "crack(1, 2, 0, 0, 1); flow(0, _) = 0/1; flow(1, _) = 0/1; width(1, 1); flow(0, _) = 0/1; hold(0, 0)",
            "flow(0, _) = -250/3; flow(1, _) = -250/3");
        test("Terms: the lower number above 0, FLOW below 0", CHAIN, "flow(0, _) = 236/3; hold(0, 1); hold(2, 60)",
            "flow(0, _) = -236/3; flow(1, _) = -236/3");
        test("Terms: the greatest FLOW", single(100, 1, 12, 1), "flow(0, _) = 14400/1; hold(0, 0); hold(1, 100)",
            "flow(0, _) = -14400/1; hold(0, 100); flow(0, _) = 0/1");
    }

    private static void p12In() {
        limits("Promise 12: LOST: UNKNOWN", ROCK, "in(#, 1)", "LOST | 0: taken .. 3: taken | LOST");
        limits("Promise 12: LOST: UNKNOWN, six JOINTS", FULL_ROCK, "in(#, 1)", "LOST | 0: taken .. 5: taken | LOST");
        limits("Promise 12: LOST: OUTSIDE", "joint(); hold(0, 5)", "in(0, #)", "LOST | 0: 0 .. 1: 1 | LOST");
        unchangedEach("Promise 12: STATE: it is FREE", ROCK,
            "in(1, 0) = LOST; in(1, 1) = LOST; in(2, 0) = LOST; in(2, 1) = LOST");
        test("Promise 12: STATE ends as it is HELD", ROCK, "in(1, 0) = LOST; hold(1, 50); in(1, 0) = taken; free(1)",
            "in(1, 0) = LOST");
        test("Promise 12: (below 0: out)", CHAIN, "in(0, _) = 236/3; in(2, _) = -236/3");
        test("Promise 12: no CRACKS, shut ones, level ones", "joint() * 2; hold(0, 7); in(0, _) = 0/1",
            "crack(0, 1, 0, 0, 1); in(0, _) = 0/1; width(0, 5); in(0, _) = 0/1");
        test("Promise 12: the most", "joint() * 2; hold(0, 100); hold(1, 0); crack(0, 1, 1, 12, 1) * 6",
            "crack(1, 0, 1, 12, 1) * 6; in(0, _) = 172800/1; in(1, _) = -172800/1; work(_) = 17280000/1");
    }

    private static void p13Work() {
        limits("Promise 13: LOST: OUTSIDE", "joint() * 2", "work(#)", "LOST | 0: 0 .. 1: 1 | LOST");
        test("Promise 13: nothing there, DRY, shut, level", "work(_) = 0/1; joint() * 2; crack(0, 1, 1, 12, 1)",
            "work(_) = 0/1; hold(0, 9); work(_) = 0/1; hold(1, 9); work(_) = 0/1; hold(1, 0); width(0, 0); work(_) = 0/1",
            "width(0, 1); work(_) = 81/1");
        test("Promise 13: never below 0, in lowest terms", CHAIN, "work(_) = 13924/3; hold(0, 1); hold(2, 60)",
            "work(_) = 13924/3");
    }

    // ---- part 2: steps, ways

    private static void p14Rate() {
        limits("Terms: RATE (1 .. 100; 10 at first)", "", "rate(#)", "OUTSIDE | 1: 10 .. 100: 10 | OUTSIDE");
        limits("Promise 14: OUTSIDE", ROCK, "rate(#)", "OUTSIDE | 1: 3 .. 100: 3 | OUTSIDE");
        test("Promise 14: what it was", single(3, 0, 1, 1), "rate(1) = 10; eats(0) = 3; rate(100) = 1; eats(0) = 300",
            "rate(101) = OUTSIDE; rate(0) = OUTSIDE; told(3) = 100; rate(100) = 100");
    }

    private static void p15Step() {
        limits("Promise 15: n STEPS (0 .. 50)", ROCK, "step(#)", "OUTSIDE | 0: 0 .. 50: taken | OUTSIDE");
        test("Promise 15: n of them", "step(0) = 0; told(2) = 0; step(50) = 0; told(2) = 50; step(51) = OUTSIDE",
            "told(2) = 50; step(1) = 0; told(2) = 51");
        test("Promise 15: how often, in all: once in a STEP", single(20, 0, 1, 1), "rate(100); step(1) = 1",
            "about(0, 3) = 3; step(1) = 1; about(0, 3) = 9; step(1) = 1; about(0, 3) = 12; step(50) = 0");
        test("Promise 15: how often, in all: over STEPS and CRACKS", "joint() * 2; hold(0, 10); hold(1, 0)",
            "crack(0, 1, 0, 1, 1) * 12; rate(50); step(1) = 0; step(1) = 12; step(2) = 24; told(7) = 48");
        test("Terms: HEADS being as they are ahead of it", CHAIN, "hold(2, 0); rate(100); step(1) = 2; about(0, 3) = 10",
            "about(0, 5) = 0; about(1, 3) = 12; about(1, 5) = 0");
        p15Amounts();
        p15Wider();
        p15Clogging();
        p15Hard();
        p15Tube();
    }

    private static void p15Amounts() {
        test("Terms: FLOW times RATE, cut to a whole number", CHAIN, "rate(1); eats(0) = 78; rate(2); eats(0) = 157",
            "rate(3); eats(0) = 236; step(1) = 0; about(0, 5) = 236");
        test("Terms: the amount of its FLOW, cut, as it flows the other way", CHAIN, "hold(0, 1); hold(2, 60); rate(1)",
            "eats(0) = 78; rate(2); eats(0) = 157; step(1) = 0; about(0, 5) = 157; about(1, 5) = 157");
        test("Terms: less than 1 is cut to 0", "joint() * 3; hold(0, 1); hold(2, 0); crack(0, 1, 0, 1, 1)",
            "crack(1, 2, 0, 1, 1); rate(1); flow(0, _) = 1/2; eats(0) = 0; step(50) = 0; about(0, 5) = 0; rate(2)",
            "eats(0) = 1; step(1); about(0, 5) = 1; rate(3); eats(0) = 1");
    }

    private static void p15Wider() {
        for (int kind = 0; kind < 2; kind++) {
            test("Terms: a STORE (0 .. 999), each 1000 of that go", single(37, kind, 1, 1), "rate(27); step(1) = 0",
                "about(0, 3) = 1; about(0, 5) = 999; hold(0, 1); rate(1); step(1) = 1; about(0, 3) = 2; about(0, 5) = 0");
            test("Terms: 1998 are one 1000", single(37, kind, 1, 1), "rate(27); step(2) = 1; about(0, 3) = 2",
                "about(0, 5) = 998");
            test("Terms: just 1000, just 2000", single(10, kind, 1, 1), "rate(100); step(1) = 1; about(0, 3) = 2",
                "about(0, 5) = 0; width(0, 1); hold(0, 20); step(1) = 1; about(0, 3) = 3; about(0, 5) = 0");
            test("Terms: No WIDTH comes beyond 12", single(100, kind, 11, 1), "rate(100); step(1) = 1; about(0, 3) = 12",
                "about(0, 5) = 0; step(1) = 0; about(0, 3) = 12; about(0, 5) = 0");
            test("Terms: of one that can go no further the STORE is 0, from 12 on", single(9, kind, 12, 1),
                "eats(0) = taken; step(1) = 0; about(0, 3) = 12; about(0, 5) = 0");
        }
        test("Terms: the STORE is 0 behind the STEP to 12, with some left", single(100, 0, 11, 1), "rate(1); step(1) = 1",
            "about(0, 3) = 12; about(0, 5) = 0");
        test("Terms: the STORE is 0 behind the STEP to 12, WIDE", single(1, 1, 11, 1), "rate(9); step(1) = 1",
            "about(0, 3) = 12; about(0, 5) = 0");
        test("Terms: at 11 a CRACK can go further", single(9, 0, 11, 1), "step(1) = 0; about(0, 3) = 11; about(0, 5) = 990");
        test("Terms: a shut one eats nothing and stays shut", kinds(0, 1), "hold(0, 100); hold(1, 0); rate(100)",
            "eats(0) = 0; eats(4) = 0; step(50) = 0; told(7) = 0; about(0, 5) = 0");
    }

    private static void p15Clogging() {
        test("Terms: CLOGGING: 1 less, at 1000", single(37, 2, 2, 1), "width(0, 1); rate(27); step(1) = 0; about(0, 3) = 1",
            "about(0, 5) = 999; hold(0, 1); rate(1); step(1) = 1; about(0, 3) = 0; about(0, 5) = 0; step(1) = 0",
            "about(0, 3) = 0");
        test("Terms: CLOGGING: each 1000", single(5, 2, 10, 1), "rate(50); step(1) = 1; about(0, 3) = 8; about(0, 5) = 500",
            "step(1) = 1; about(0, 3) = 6; about(0, 5) = 500");
        test("Terms: No WIDTH comes below 0", single(100, 2, 1, 1), "rate(100); step(1) = 1; about(0, 3) = 0",
            "about(0, 5) = 0; flow(0, _) = 0/1; step(5) = 0; about(0, 3) = 0");
        test("Terms: of one at 0 the STORE is 0, with some left", single(25, 2, 1, 1), "rate(50); step(1) = 1",
            "about(0, 3) = 0; about(0, 5) = 0");
        test("Terms: CLOGGING can go further at 12 and at 1", single(1, 2, 12, 1), "step(1) = 0; about(0, 3) = 12",
            "about(0, 5) = 120; width(0, 1); step(1) = 0; about(0, 3) = 1; about(0, 5) = 10");
    }

    private static void p15Hard() {
        test("Terms: a STEP (numbered from 1 on)", single(30, 3, 1, 1), "eats(0) = 300; step(1); about(0, 5) = 300",
            "eats(0) = 300");
        test("Terms: HARD: only in STEPS that are a multiple of its NUMBER", single(1, 3, 1, 12), "eats(0) = 0",
            "step(11) = 0; about(0, 5) = 0; eats(0) = 10; step(1); about(0, 5) = 10; eats(0) = 0; step(11)",
            "about(0, 5) = 10; eats(0) = 10; step(1); about(0, 5) = 20");
        test("Terms: (in others it EATS nothing)", single(100, 3, 1, 2), "rate(100); eats(0) = 0; step(1) = 0",
            "about(0, 3) = 1; about(0, 5) = 0; eats(0) = 10000; step(1) = 1; about(0, 3) = 11; step(1) = 0",
            "about(0, 3) = 11; step(1) = 1; about(0, 3) = 12; about(0, 5) = 0; step(4) = 0; about(0, 5) = 0");
        test("Terms: a HARD one's STORE stays in others", single(30, 3, 1, 3), "step(3); about(0, 5) = 300; step(2)",
            "about(0, 5) = 300; step(1); about(0, 5) = 600");
        test("Terms: NUMBERS of other kinds are for nothing in a STEP", kinds(1, 12), "hold(0, 1); hold(1, 0); step(1)",
            "about(0, 5) = 10; about(1, 5) = 10; about(2, 5) = 10; about(3, 5) = 0; about(4, 5) = 0");
    }

    private static void p15Tube() {
        test("Terms: TUBE: its WIDTH does not come beyond its NUMBER", single(100, 4, 1, 5), "rate(100); step(4) = 0",
            "about(0, 3) = 1; step(1) = 1; about(0, 3) = 5; about(0, 5) = 0; step(45) = 0; about(0, 3) = 5",
            "about(0, 5) = 0");
        test("Terms: TUBE: to its NUMBER, with some left", single(60, 4, 2, 3), "step(3) = 1; about(0, 3) = 3",
            "about(0, 5) = 0");
        test("Terms: TUBE: one below its NUMBER can go further", single(1, 4, 2, 3), "step(3) = 0; about(0, 3) = 2",
            "about(0, 5) = 40; step(3); about(0, 5) = 80");
        test("Terms: TUBE: at its NUMBER the STORE is 0", single(9, 4, 1, 1), "eats(0) = 90; step(1) = 0; about(0, 3) = 1",
            "about(0, 5) = 0");
        test("Terms: (nor does it become less, if it is)", single(100, 4, 12, 1), "rate(100); step(3) = 0",
            "about(0, 3) = 12; about(0, 5) = 0; width(0, 2); eats(0) = 40000; step(1) = 0; about(0, 3) = 2",
            "about(0, 5) = 0");
        test("Terms: TUBE of NUMBER 12: no WIDTH beyond 12", single(100, 4, 11, 12), "rate(100); step(11) = 0; step(1) = 1",
            "about(0, 3) = 12; about(0, 5) = 0; step(12) = 0; about(0, 3) = 12");
        test("Terms: TUBE: as HARD, only in its STEPS", single(30, 4, 1, 2), "eats(0) = 0; step(1); about(0, 5) = 0",
            "eats(0) = 300; step(1); about(0, 5) = 300; step(1); about(0, 5) = 300; step(1); about(0, 5) = 600",
            "step(3) = 0; about(0, 5) = 900; step(1) = 1; about(0, 3) = 2; about(0, 5) = 0");
    }

    private static void p16Run() {
        limits("Promise 16: OUTSIDE: t", ROCK, "run(#)", "OUTSIDE | 1: 0 .. 12: taken | OUTSIDE");
        test("Promise 16: (if there is one already, none)", single(100, 0, 5, 1), "run(5) = 0; run(1) = 0; told(2) = 0",
            "about(0, 5) = 0; run(6) = 1; told(2) = 1");
        test("Promise 16: 200 at most, the last one opens it", single(1, 0, 1, 1), "rate(5); run(2) = 200; told(2) = 200",
            "about(0, 3) = 2; run(2) = 0; told(2) = 200");
        test("Promise 16: NONE: there is none then, one STEP short", single(1, 0, 1, 1), "rate(4); run(2) = NONE",
            "told(2) = 200; about(0, 5) = 800; rate(1); run(2) = 200; told(2) = 400");
        test("Promise 16: NONE (200 were done)", "run(1) = NONE; told(2) = 200; run(12) = NONE; told(2) = 400");
        test("Promise 16: the highest is the lowest", single(0, 0, 12, 1), "run(1) = NONE; told(2) = 200");
        test("Promise 16: a WAY that clogs is there already, or never", single(100, 2, 3, 1), "run(3) = 0; run(4) = NONE",
            "about(0, 3) = 0; run(1) = NONE; told(2) = 400");
        test("Promise 16: to 12", single(100, 1, 1, 1), "rate(100); run(12) = 2; told(2) = 2; open() = 12");
        test("Promise 16: a TUBE's NUMBER", single(100, 4, 1, 3), "rate(100); run(3) = 3; run(4) = NONE; told(2) = 203");
    }

    private static void p17Ways() {
        limits("Promise 17: OUTSIDE: t", single(1, 0, 12, 1), "ways(#)", "OUTSIDE | 1: 1 .. 12: 1 | OUTSIDE");
        test("Terms: all WIDTHS t or more", single(1, 0, 5, 1), "ways(4) = 1; ways(5) = 1; ways(6) = 0; width(0, 0)",
            "ways(1) = 0; width(0, 1); ways(1) = 1; ways(2) = 0; width(0, 12); ways(12) = 1");
        test("Terms: all WIDTHS, the least of a WAY", CHAIN, "ways(2) = 1; ways(3) = 0; width(0, 12); ways(4) = 1",
            "ways(5) = 0; width(1, 0); ways(1) = 0");
        test("Terms: (none, if the highest is the lowest)", single(5, 0, 12, 1), "ways(1) = 1; hold(1, 5); ways(1) = 0",
            "hold(1, 4); ways(1) = 1; hold(1, 6); ways(1) = 1; free(1); ways(1) = 0; free(0); ways(1) = 0; hold(0, 0)",
            "ways(1) = 0; hold(1, 0); ways(1) = 0");
        test("Terms: the highest HEAD of all HELD ones", CHAIN, "hold(1, 60); ways(1) = 2; hold(1, 61); ways(1) = 1",
            "hold(1, 1); ways(1) = 2; hold(1, 0); ways(1) = 1; free(1); ways(1) = 1");
        test("Terms: a FREE one is no end, at whatever HEAD", CHAIN, "hold(1, 100); free(1); ways(1) = 1; free(0)",
            "ways(1) = 0; hold(0, 1); ways(1) = 0; hold(0, 0); ways(1) = 1");
        test("Terms: no JOINT come to twice", "joint() * 4; hold(0, 9); hold(3, 1); crack(0, 1, 0, 5, 1)",
            "crack(1, 2, 0, 5, 1); crack(2, 1, 0, 5, 1); crack(1, 3, 0, 5, 1); ways(1) = 1; through(1, 1) = 0",
            "through(2, 1) = 0; crack(2, 3, 0, 5, 1); ways(1) = 3; through(1, 1) = 1; through(2, 1) = 1");
        test("Terms: rows of CRACKS, side by side ones too", "joint() * 2; hold(0, 1); hold(1, 0)",
            "crack(0, 1, 0, 1, 1) * 6; crack(1, 0, 4, 1, 1) * 6; ways(1) = 12; ways(2) = 0");
        test("Terms: the longest row", "joint() * 6; hold(0, 1); hold(5, 0); crack(0, 1, 0, 3, 1) = 0",
            "crack(2, 1, 1, 4, 1); crack(2, 3, 2, 5, 1); crack(4, 3, 3, 6, 1); crack(4, 5, 4, 7, 1); ways(3) = 1",
            "ways(4) = 0; through(0, 3) = 1; through(4, 3) = 1; open() = 3");
        test("Terms: no JOINTS, no CRACKS", "ways(1) = 0; ways(12) = 0; joint() * 2; hold(0, 1); hold(1, 0); ways(1) = 0");
        test("Terms: each next to the one ahead", "joint() * 4; hold(0, 1); hold(3, 0); crack(0, 1, 0, 9, 1)",
            "crack(2, 3, 0, 9, 1); ways(1) = 0; crack(1, 2, 0, 9, 1); ways(1) = 1");
    }

    private static void p18Through() {
        limits("Promise 18: UNKNOWN", ROCK, "through(#, 1)", "UNKNOWN | 0: 1 .. 5: 0 | UNKNOWN");
        limits("Promise 18: UNKNOWN, twelve CRACKS", FULL_ROCK, "through(#, 1)", "UNKNOWN | 0: 1 .. 11: 1 | UNKNOWN");
        limits("Promise 18: OUTSIDE: t", single(1, 0, 12, 1), "through(0, #)", "OUTSIDE | 1: 1 .. 12: 1 | OUTSIDE");
        test("Promise 18: 1, 0: t or more", CHAIN, "through(0, 2) = 1; through(1, 2) = 1; through(0, 3) = 0",
            "through(1, 3) = 0; through(1, 4) = 0");
        test("Promise 18: a shut one, a dead end", CHAIN, "joint(); crack(1, 3, 0, 12, 1) = 2; crack(0, 2, 0, 0, 1) = 3",
            "through(2, 1) = 0; through(3, 1) = 0; width(3, 1); through(3, 1) = 1; through(3, 2) = 0");
        test("Promise 18: none, if the highest is the lowest", single(0, 0, 12, 1), "through(0, 1) = 0; hold(0, 1)",
            "through(0, 1) = 1; free(1); through(0, 1) = 0");
    }

    private static void p19Open() {
        test("Promise 19: 0: none", "open() = 0; joint() * 2; open() = 0; crack(0, 1, 0, 12, 1); open() = 0; hold(0, 5)",
            "open() = 0; hold(1, 5); open() = 0; hold(1, 4); open() = 12");
        test("Promise 19: The greatest t", single(1, 0, 0, 1), "open() = 0; width(0, 1); open() = 1; width(0, 11)",
            "open() = 11; width(0, 12); open() = 12");
        test("Promise 19: of the widest WAY", "joint() * 3; hold(0, 1); hold(2, 0); crack(0, 2, 0, 3, 1)",
            "crack(0, 1, 0, 12, 1); crack(1, 2, 0, 4, 1); open() = 4; width(2, 2); open() = 3");
    }

    private static void p20Eats() {
        limits("Promise 20: LOST: UNKNOWN", ROCK, "eats(#)", "LOST | 0: taken .. 5: 0 | LOST");
        limits("Promise 20: LOST: UNKNOWN, twelve CRACKS", FULL_ROCK, "eats(#)", "LOST | 0: taken .. 11: taken | LOST");
        test("Promise 20: the most and nothing", single(100, 1, 12, 1), "rate(100); eats(0) = 1440000; hold(0, 0)",
            "eats(0) = 0; hold(1, 100); eats(0) = 1440000; free(0); eats(0) = 0; free(1); eats(0) = 0");
        test("Promise 20: in the next STEP", single(1, 3, 1, 2), "eats(0) = 0; step(1); eats(0) = 10; step(1); eats(0) = 0",
            "keep(); step(1); eats(0) = 10; back(); eats(0) = 0");
        unchanged("Promise 20: would EAT: nothing is eaten", ROCK, "eats(0) = taken");
    }

    private static void p21Told() {
        limits("Promise 21: OUTSIDE", "joint() * 2; crack(0, 1, 0, 8, 1)", "told(#)", "OUTSIDE | 0: 2 .. 7: 8 | OUTSIDE");
        test("Promise 21: nothing there", "told(0) = 0; told(1) = 0; told(2) = 0; told(3) = 10; told(4) = 0; told(5) = 0",
            "told(6) = 0; told(7) = 0");
        test("Promise 21: the most of each", "joint() * 6; told(5) = 6; crack(0, 1, 1, 12, 1) * 12; told(5) = 6",
            "hold(0, 1); told(5) = 4; hold(1, 1); hold(2, 1); hold(3, 1); hold(4, 1); hold(5, 1); told(0) = 6",
            "told(1) = 12; told(2) = 0; told(4) = 6; told(5) = 0; told(6) = 12; told(7) = 144; rate(100); told(3) = 100",
            "rate(1); told(3) = 1; width(11, 0); told(6) = 11; told(7) = 132");
    }

    private static void p22Keep() {
        test("Promise 22: how many are", "keep() = 1; keep() = 2; keep() = 3; keep() = 4; keep() = 5; keep() = 6",
            "keep() = 7; keep() = 8; keep() = 8; keep() = 8; back() = 7; keep() = 8; keep() = 8");
        test("Promise 22: eight are kept, the first of them too", single(1, 0, 1, 1), "keep(); step(1); keep() * 7",
            "step(3); back() * 7; told(2) = 1; back() = 0; told(2) = 0; about(0, 5) = 0; back() = STATE");
        test("Promise 22: of eight the eldest goes", single(1, 0, 1, 1), "keep(); step(1); keep(); step(1); keep() * 6",
            "keep() = 8; back() * 7; told(2) = 2; back() = 0; told(2) = 1; about(0, 5) = 10; back() = STATE; told(2) = 1");
        StringBuilder ring = new StringBuilder(single(1, 0, 0, 1));
        for (int w = 1; w <= 12; w++) {
            ring.append("width(0, " + w + "); keep() = " + Math.min(w, 8) + ";");
        }
        test("Promise 22: of eight the eldest goes, again and again", ring.toString(), """
            back() = 7; about(0, 3) = 12; back() = 6; back() = 5; about(0, 3) = 10
            width(0, 1); keep() = 6; keep() = 7; keep() = 8; width(0, 2); keep() = 8
            back() = 7; about(0, 3) = 2; back() * 3; about(0, 3) = 1; back() = 3; about(0, 3) = 9
            back() * 2; about(0, 3) = 7; back() = 0; about(0, 3) = 6; back() = STATE
            """);
        test("Promise 22: a rock of nothing", "keep() = 1; joint() * 2; crack(0, 1, 0, 3, 1); step(4); back() = 0",
            "told(2) = 0; told(0) = 2; told(1) = 1; about(0, 3) = 3");
    }

    private static void p23Back() {
        test("Promise 23: STATE: none is kept", "back() = STATE; keep() = 1; back() = 0; back() = STATE");
        unchanged("Promise 23: STATE changes nothing", FULL_ROCK + "back()", "back() = STATE");
        test("Promise 23: those kept last, which goes", single(9, 0, 1, 1), "keep() = 1; step(1); keep() = 2; step(1)",
            "about(0, 5) = 180; back() = 1; about(0, 5) = 90; told(2) = 1; step(5); back() = 0; about(0, 5) = 0",
            "told(2) = 0");
        test("Promise 23: WIDTHS, STORES, STEPS", single(35, 0, 1, 1), "step(2); keep(); width(0, 12); step(9); back() = 0",
            "about(0, 3) = 1; about(0, 5) = 700; told(2) = 2; flow(0, _) = 35/1; step(1) = 1; about(0, 5) = 50");
        test("Promise 23: (of CRACKS that were there then)", single(9, 0, 1, 1), "keep(); crack(0, 1, 0, 2, 1)",
            "crack(0, 1, 1, 12, 1); step(1); back() = 0; told(1) = 3; about(0, 5) = 0; about(1, 3) = 2; about(1, 5) = 180",
            "about(2, 3) = 12");
        test("Promise 23: nothing else", single(9, 0, 1, 1), "keep(); rate(3); hold(0, 8); free(1); joint(); tell(0)",
            "core(0, 0, 1); put(0, 0, 4); step(1); back() = 0; told(3) = 3; at(0, 1) = 8; at(1, 0) = 0; told(0) = 3",
            "trace() = 1; cell(0, 0, 0) = 4");
        test("Promise 23: the same again is kept apart", single(9, 0, 1, 1), "keep() * 2; step(1); back() = 1; width(0, 7)",
            "back() = 0; about(0, 3) = 1");
    }

    // ---- part 3: cores, parts

    private static void p24Core() {
        limits("Promise 24: UNKNOWN, CORES 0 .. 3", ROCK, "core(#, 0, 1)", "UNKNOWN | 0: 1 .. 3: 1 | UNKNOWN");
        limits("Promise 24: OUTSIDE: lane", ROCK, "core(0, #, 1)", "OUTSIDE | 0: 1 .. 3: 1 | OUTSIDE");
        for (int lane = 0; lane < 4; lane++) {
            limits("Promise 24: OUTSIDE: n above 24; SIZE", ROCK, "core(0, " + lane + ", #)",
                "SIZE | 0: 1 .. 24: 1 | OUTSIDE");
            laneTest("Terms: a row of 0 numbers", lane, "core(1, #, 0) = 1; cell(1, 0, #) = LOST INDEX",
                "put(1, 0, 1) = INDEX; put(1, -1, 1) = INDEX; copy(1, 0, 1, 0, 0) = 0; copy(1, 0, 1, 0, 1) = INDEX",
                "lose(1) = 1");
            laneTest("Terms: a row of 24 numbers (0 at first)", lane, "core(1, #, 24) = 1; cell(1, 0, #) = 0",
                "cell(1, 23, #) = 0; cell(1, 24, #) = LOST INDEX; put(1, 23, 9) = 1; put(1, 24, 9) = INDEX",
                "cell(1, 23, #) = 9; cell(1, 22, #) = 0");
        }
        test("Promise 24: a new row", "core(0, 2, 3); put(0, 0, 7); put(0, 2, 8); core(0, 2, 3) = 1; cell(0, 0, 2) = 0",
            "cell(0, 2, 2) = 0; put(0, 2, 5); core(0, 0, 1) = 1; cell(0, 0, 2) = LOST CAST; cell(0, 1, 0) = LOST INDEX",
            "core(0, 0, 3); cell(0, 2, 0) = 0");
        test("Terms: CORES have rows of their own", "core(0, 2, 2); core(3, 2, 2); put(0, 1, 5); cell(3, 1, 2) = 0",
            "put(3, 1, 6); cell(0, 1, 2) = 5; lose(1) = 0; lose(2) = 0");
    }

    private static void p25Lose() {
        limits("Promise 25: UNKNOWN", ROCK, "lose(#)", "UNKNOWN | 0: 1 .. 3: 1 | UNKNOWN");
        test("Promise 25: 1; 0: it had nothing", "lose(0) = 0; core(0, 1, 2); put(0, 1, 5); lose(0) = 1; lose(0) = 0",
            "cell(0, 1, 1) = LOST NULL; put(0, 1, 1) = NULL; cell(0, 1, 3) = LOST NULL; core(0, 1, 2); cell(0, 1, 1) = 0");
        test("Promise 25: a row of none is something", "core(2, 3, 0); lose(2) = 1; lose(2) = 0");
        unchanged("Promise 25: it had nothing", ROCK, "lose(1) = 0");
    }

    private static void p26Put() {
        limits("Promise 26: UNKNOWN", ROCK, "put(#, 0, 1)", "UNKNOWN | 0: 1 .. 3: 1 | UNKNOWN");
        limits("Promise 26: INDEX", ROCK, "put(0, #, 1)", "INDEX | 0: 1 .. 3: 1 | INDEX");
        limits("Promise 26: INDEX, 24 cells", ROCK, "put(3, #, 1)", "INDEX | 0: 1 .. 23: 1 | INDEX");
        unchangedEach("Promise 26: NULL", ROCK, "put(1, 0, 1) = NULL; put(1, 23, 0) = NULL");
        cut(0, new long[][] {{127, 127}, {128, -128}, {-128, -128}, {-129, 127}, {255, -1}, {256, 0}, {65543, 7}});
        cut(1, new long[][] {{32767, 32767}, {32768, -32768}, {-32768, -32768}, {-32769, 32767}, {65535, -1}, {65536, 0},
            {128, 128}});
        cut(2, new long[][] {{2147483647, 2147483647}, {2147483648L, -2147483648}, {-2147483648, -2147483648},
            {-2147483649L, 2147483647}, {4294967295L, -1}, {4294967296L, 0}, {32768, 32768}});
        cut(3, new long[][] {{Long.MAX_VALUE, Long.MAX_VALUE}, {Long.MIN_VALUE, Long.MIN_VALUE},
            {2147483648L, 2147483648L}, {-1, -1}, {4294967296L, 4294967296L}});
        for (int lane = 0; lane < 3; lane++) {
            cut(lane, new long[][] {{Long.MAX_VALUE, -1}, {Long.MIN_VALUE, 0}, {0, 0}, {-1, -1}});
        }
    }

    /** A test in which # is a lane. */
    private static void laneTest(String sentence, int lane, String... texts) {
        test(sentence + ", lane " + lane, String.join(";", texts).replace("#", Integer.toString(lane)));
    }

    private static void cut(int lane, long[][] rows) {
        for (long[] row : rows) {
            laneTest("Terms: what comes to a cell of it is cut to its LANE", lane,
                "core(2, #, 3); put(2, 1, " + row[0] + ") = 1; cell(2, 1, #) = " + row[1],
                "cell(2, 0, #) = 0; cell(2, 2, #) = 0; copy(2, 1, 2, 2, 1) = 1; cell(2, 2, #) = " + row[1]);
        }
    }

    private static void p27Cell() {
        limits("Promise 27: LOST: UNKNOWN", ROCK, "cell(#, 0, 2)", "LOST | 0: 5 .. 3: 3 | LOST");
        limits("Promise 27: LOST: OUTSIDE: lane", ROCK, "cell(2, 2, #)", "LOST | 0: -1 .. 3: LOST CAST | LOST");
        limits("Promise 27: FAULTS INDEX", ROCK, "cell(0, #, 2)", "LOST INDEX | 0: 5 .. 3: 7 | LOST INDEX");
        limits("Promise 27: FAULTS INDEX, 24 cells", ROCK, "cell(3, #, 2)", "LOST INDEX | 0: 3 .. 23: 9 | LOST INDEX");
        for (int lane = 0; lane < 4; lane++) {
            for (int other = 0; other < 4; other++) {
                test("Promise 27: FAULTS CAST",
                    "core(0, " + lane + ", 1); cell(0, 0, " + other + ") = " + (lane == other ? "0" : "LOST CAST"));
            }
            unchanged("Promise 27: (nothing is no CAST), NULL", ROCK, "cell(1, 0, " + lane + ") = LOST NULL");
        }
        test("Promise 27: a cell that is as LOST is", "core(0, 3, 1); put(0, 0, -9223372036854775808)",
            "put(0, 1, 0) = INDEX; cell(0, 0, 3) = LOST; fault() = 0");
        unchanged("Promise 27: a cell is only looked at", ROCK, "cell(0, 3, 2) = 7");
    }

    private static void p28Copy() {
        limits("Promise 28: UNKNOWN, the first", ROCK, "copy(#, 0, 0, 0, 1)", "UNKNOWN | 0: 1 .. 3: 1 | UNKNOWN");
        limits("Promise 28: UNKNOWN, the other", ROCK, "copy(0, 0, #, 0, 1)", "UNKNOWN | 0: 1 .. 3: 1 | UNKNOWN");
        limits("Promise 28: INDEX: i", ROCK, "copy(0, #, 3, 0, 1)", "INDEX | 0: 1 .. 3: 1 | INDEX");
        limits("Promise 28: INDEX: i, n of 0", ROCK, "copy(0, #, 3, 0, 0)", "INDEX | 0: 0 .. 4: 0 | INDEX");
        limits("Promise 28: INDEX: j", ROCK, "copy(0, 0, 3, #, 1)", "INDEX | 0: 1 .. 23: 1 | INDEX");
        limits("Promise 28: INDEX: j, n of 0", ROCK, "copy(0, 0, 3, #, 0)", "INDEX | 0: 0 .. 24: 0 | INDEX");
        limits("Promise 28: INDEX: n, of the first", ROCK, "copy(0, 0, 3, 0, #)", "INDEX | 0: 0 .. 4: 4 | INDEX");
        limits("Promise 28: INDEX: n, of the other", ROCK, "copy(3, 0, 0, 0, #)", "INDEX | 0: 0 .. 4: 4 | INDEX");
        limits("Promise 28: INDEX: n, all of a row", ROCK, "copy(3, 0, 3, 0, #)", "INDEX | 0: 0 .. 24: 24 | INDEX");
        limits("Promise 28: INDEX: n, from i on", ROCK, "copy(0, 3, 3, 0, #)", "INDEX | 0: 0 .. 1: 1 | INDEX");
        limits("Promise 28: INDEX: n, from j on", ROCK, "copy(3, 0, 0, 3, #)", "INDEX | 0: 0 .. 1: 1 | INDEX");
        limits("Promise 28: INDEX: n, from the end on", ROCK, "copy(0, 4, 3, 24, #)", "INDEX | 0: 0 .. 0: 0 | INDEX");
        unchangedEach("Promise 28: INDEX: no sum wraps", ROCK, """
            copy(0, 2147483647, 3, 0, 2147483647) = INDEX; copy(0, 1, 3, 2147483647, 2147483647) = INDEX
            copy(0, -2147483648, 3, 0, -2147483648) = INDEX; copy(0, 1, 3, 1, 2147483647) = INDEX
            """);
        unchangedEach("Promise 28: FAULTS NULL (the first, the other)", ROCK,
            "copy(1, 0, 0, 0, 0) = NULL; copy(0, 0, 1, 0, 0) = NULL; copy(1, 0, 1, 0, 1) = NULL");
        unchangedEach("Promise 28: n of 0", ROCK, "copy(0, 0, 3, 0, 0) = 0; copy(0, 4, 3, 24, 0) = 0");
        p28Cells();
    }

    private static void p28Cells() {
        for (int lane = 0; lane < 4; lane++) {
            for (int other = 0; other < 4; other++) {
                laneTest("Promise 28: CAST (unlike LANES)", lane, "core(0, #, 1); core(1, " + other + ", 1)",
                    "copy(0, 0, 1, 0, 1) = " + (lane == other ? "1" : "CAST"));
            }
            String row = "core(0, #, 5); put(0, 0, 1); put(0, 1, -2); put(0, 2, 3); put(0, 3, -128); put(0, 4, 127);";
            laneTest("Promise 28: (perhaps the same), as they were: up", lane, row, "copy(0, 0, 0, 1, 4) = 4",
                "cell(0, 0, #) = 1; cell(0, 1, #) = 1; cell(0, 2, #) = -2; cell(0, 3, #) = 3; cell(0, 4, #) = -128");
            laneTest("Promise 28: (perhaps the same), as they were: down", lane, row, "copy(0, 1, 0, 0, 4) = 4",
                "cell(0, 0, #) = -2; cell(0, 1, #) = 3; cell(0, 2, #) = -128; cell(0, 3, #) = 127; cell(0, 4, #) = 127");
            laneTest("Promise 28: go to another one from j on", lane, row, "core(3, #, 4); copy(0, 3, 3, 1, 2) = 2",
                "cell(3, 0, #) = 0; cell(3, 1, #) = -128; cell(3, 2, #) = 127; cell(3, 3, #) = 0; cell(0, 3, #) = -128",
                "put(0, 3, 9); cell(3, 1, #) = -128");
        }
    }

    private static void p29Tell() {
        limits("Promise 29: UNKNOWN", ROCK, "tell(#)", "UNKNOWN | 0: taken .. 5: 0 | UNKNOWN");
        limits("Promise 29: UNKNOWN, twelve CRACKS", FULL_ROCK, "tell(#)", "UNKNOWN | 0: taken .. 11: taken | UNKNOWN");
        int[][] want = {{0, 12}, {0, 120}, {-20, -8}, {0, 120}, {5, 17}};
        int[] traces = {1, 63, 94, 63, 125};
        for (int kind = 0; kind < 5; kind++) {
            for (int end = 0; end < 2; end++) {
                test("Terms: TELLING of kind " + kind + " at WIDTH 0, 12", kinds(12 * end, 5),
                    "tell(" + kind + ") = " + want[kind][end] + "; trace() = " + traces[kind]);
            }
        }
        test("Terms: TUBE: and its NUMBER, 1 .. 12", "joint() * 2; crack(0, 1, 4, 0, 1); crack(0, 1, 4, 12, 12)",
            "tell(0) = 1; tell(1) = 24");
        test("Promise 29: as the WIDTH is by now", single(1, 1, 0, 1), "tell(0) = 0; width(0, 3); tell(0) = 30",
            "width(0, 12); tell(0) = 120");
    }

    private static void p30Judge() {
        limits("Promise 30: UNKNOWN", ROCK, "judge(#)", "UNKNOWN | 0: 100 .. 5: 100 | UNKNOWN");
        limits("Promise 30: UNKNOWN, twelve CRACKS", FULL_ROCK, "judge(#)", "UNKNOWN | 0: 100 .. 11: 101 | UNKNOWN");
        int[] traces = {5, 5, 5, 6, 6};
        for (int number = 1; number <= 12; number += 11) {
            int[] want = {100, 101, 102, number, number};
            for (int kind = 0; kind < 5; kind++) {
                test("Terms: JUDGED of kind " + kind + ", NUMBERS 1 .. 12", kinds(7, number),
                    "judge(" + kind + ") = " + want[kind] + "; trace() = " + traces[kind]);
            }
        }
    }

    private static void p31As() {
        limits("Promise 31: UNKNOWN", ROCK, "as(#, 0)", "UNKNOWN | 0: 1 .. 5: 1 | UNKNOWN");
        limits("Promise 31: UNKNOWN, twelve CRACKS", FULL_ROCK, "as(#, 0)", "UNKNOWN | 0: 1 .. 11: 1 | UNKNOWN");
        limits("Promise 31: OUTSIDE", ROCK, "as(4, #)", "OUTSIDE | 0: 1 .. 4: 1 | OUTSIDE");
        String[] isOne = {"10000", "11000", "10100", "11010", "11011"};
        for (int c = 0; c < 5; c++) {
            for (int kind = 0; kind < 5; kind++) {
                boolean is = isOne[c].charAt(kind) == '1';
                unchanged("Promise 31: CAST: it is none, " + c + " as " + kind, ROCK,
                    "as(" + c + ", " + kind + ") = " + (is ? "1" : "CAST"));
            }
        }
    }

    private static void p32Trace() {
        test("Terms: TRACE, an int that wraps, 0 at first", single(1, 0, 1, 1), "trace() = 0; judge(0); trace() = 5",
            "judge(0); trace() = 160; judge(0) * 4; trace() = 147917280; judge(0); trace() = 290468389; judge(0)",
            "trace() = 414585472; judge(0); trace() = -32752251; trace() = -32752251");
        test("Terms: no body begins in a refused call", single(1, 0, 1, 1), "tell(1) = UNKNOWN; judge(1) = UNKNOWN",
            "tell(-1) = UNKNOWN; trace() = 0; as(0, 0); about(0, 3); trace() = 0");
        test("Terms: in the order in which they begin", kinds(1, 1),
            "tell(4); judge(4); tell(3); trace() = " + (((((4 * 31 + 1) * 31 + 6) * 31) + 2) * 31 + 1));
    }

    private static void p33Fault() {
        test("Promise 33: (0 ahead of any)", "fault() = 0; joint(); hold(4, 4); back(); lose(0); fault() = 0");
        for (String fault : List.of("put(1, 0, 0) = NULL", "as(0, 4) = CAST", "put(0, 4, 0) = INDEX",
            "core(0, 0, -1) = SIZE", "cell(0, 4, 2) = LOST INDEX")) {
            for (String done : List.of("widths(0, 2, 0, 1, 0) = 1", "core(0, 2, 1) = 1", "put(0, 0, 1) = 1",
                "cell(0, 0, 2) = 5", "copy(0, 0, 3, 0, 1) = 1", "as(0, 0) = 1")) {
                test("Promise 33: 0: it came to none", ROCK, fault, done, "fault() = 0; fault() = 0");
            }
            test("Promise 33: of the latest call", ROCK, fault, "cell(1, 0, 0) = LOST NULL; cell(0, 0, 0) = LOST CAST",
                "put(0, -1, 0) = INDEX; core(0, 0, -9) = SIZE; fault() = 4; fault() = 4");
        }
    }

    private static void lastCalls() {
        String last = "What it is: at most 512 calls after it has been made";
        test(last, "run(12) = NONE * 511; told(2) = 102200");
        test(last, single(1, 3, 1, 11), "rate(1); step(1) = 0 * 505; about(0, 5) = 45");
        test(last, "keep() * 511; keep() = 8");
    }

    private static void constants() {
        long[][] pairs = {{WideningCracks.UNKNOWN, -1}, {WideningCracks.OUTSIDE, -2}, {WideningCracks.STATE, -3},
            {WideningCracks.FULL, -4}, {WideningCracks.NONE, -9}, {WideningCracks.LOST, Long.MIN_VALUE}};
        Run run = new Run("The public face: constants");
        for (long[] pair : pairs) {
            run.due("a constant", pair[0], pair[1]);
        }
    }

    private static void terms() {
        constants();
        refusalsOrder();
        refusalsChangeNothing();
        refusalsAndFault();
        faultsNumbers();
        faultsOrder();
        faultsChangeNothing();
        lastCalls();
    }

    private static void partOne() {
        p01NewObject();
        p02Joint();
        p03Hold();
        p04Free();
        p05Crack();
        p06Widths();
        p07Width();
        p08About();
        p09At();
        p10Head();
        p11Flow();
        p12In();
        p13Work();
    }

    private static void partTwo() {
        p14Rate();
        p15Step();
        p16Run();
        p17Ways();
        p18Through();
        p19Open();
        p20Eats();
        p21Told();
        p22Keep();
        p23Back();
    }

    private static void partThree() {
        p24Core();
        p25Lose();
        p26Put();
        p27Cell();
        p28Copy();
        p29Tell();
        p30Judge();
        p31As();
        p32Trace();
        p33Fault();
    }

    public static void main(String[] args) {
        for (Method method : WideningCracks.class.getDeclaredMethods()) {
            CALLS.put(method.getName(), method);
        }
        terms();
        partOne();
        partTwo();
        partThree();
        System.out.println(tests + " tests, " + asked + " answers, " + wrong + " not as due");
        if (wrong != 0) {
            System.exit(1);
        }
    }
}
