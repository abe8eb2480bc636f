import java.lang.reflect.Method;
import java.util.Arrays;
import java.util.HashMap;
import java.util.LinkedHashMap;
import java.util.Map;
import java.util.TreeMap;

/**
 * What each call changes, as later calls show it, and that it changes nothing else.
 *
 * <p>The call is made on a rock whose every answer was reckoned by hand from the document; all that can be seen of the
 * object is looked at with and without the call, and what differs must be just what the test tells.
 */
public final class ChangeTests {
    private static final int MOST_CALLS = 512;
    private static final long LOST = Long.MIN_VALUE;

    /**
     * Joints 0 (held), 1 (free), 2 (held), 3 (dry); a crack of each kind, that of kind 2 shut; one kept rock; step 1 is
     * done; the trace is 1 and the fault is 2.
     */
    private static final String BASE = """
        joint(); joint(); joint(); joint(); hold(0, 10); hold(2, 0)
        crack(0, 1, 0, 2, 1); crack(1, 2, 1, 2, 3); crack(1, 3, 2, 0, 4); crack(0, 2, 3, 1, 2); crack(2, 0, 4, 3, 5)
        keep(); step(1); tell(0)
        core(0, 2, 3); put(0, 0, 3); put(0, 1, 4); put(0, 2, 13); core(2, 0, 2); put(2, 0, -1); as(0, 4)
        """;

    private static final Map<String, Method> METHODS = new HashMap<>();

    private static int wrong = 0;
    private static int asked = 0;

    private static void due(String what, Object got, Object want) {
        asked++;
        if (!got.equals(want)) {
            wrong++;
            System.out.println(what + " is " + got + ", due is " + want);
        }
    }

    // ---- an object and all that can be seen of it

    private static final class Seen {
        final WideningCracks x = new WideningCracks();
        final Map<String, String> answers = new LinkedHashMap<>();
        int calls = 0;

        long ask(String name, long... arguments) {
            calls++;
            Method method = METHODS.get(name);
            Object[] values = new Object[arguments.length];
            for (int k = 0; k < values.length; k++) {
                boolean isLong = method.getParameterTypes()[k] == long.class;
                values[k] = isLong ? (Object) arguments[k] : (Object) Math.toIntExact(arguments[k]);
            }
            try {
                return ((Number) method.invoke(x, values)).longValue();
            } catch (ReflectiveOperationException e) {
                throw new IllegalStateException(name + " threw", e);
            }
        }

        long make(String call) {
            String inner = call.substring(call.indexOf('(') + 1, call.indexOf(')'));
            String[] texts = inner.isBlank() ? new String[0] : inner.split(",");
            long[] arguments = new long[texts.length];
            for (int k = 0; k < arguments.length; k++) {
                arguments[k] = Long.parseLong(texts[k].trim());
            }
            return ask(call.substring(0, call.indexOf('(')), arguments);
        }

        Seen play(String text) {
            for (String call : text.split("[;\n]")) {
                if (!call.isBlank()) {
                    make(call.trim());
                }
            }
            return this;
        }

        void see(String name, long... arguments) {
            answers.put(label(name, arguments), Long.toString(ask(name, arguments)));
        }

        /** A fraction under the label of its call without which. */
        void seeFraction(String name, long... arguments) {
            long[] all = Arrays.copyOf(arguments, arguments.length + 1);
            long upper = ask(name, all);
            all[arguments.length] = 1;
            long lower = ask(name, all);
            answers.put(label(name, arguments), upper == LOST && lower == LOST ? "LOST" : upper + "/" + lower);
        }

        static String label(String name, long... arguments) {
            StringBuilder text = new StringBuilder(name);
            for (long argument : arguments) {
                text.append(' ').append(argument);
            }
            return text.toString();
        }

        /** Uses the object up: what is kept shows only by going back. */
        Map<String, String> look() {
            // Looking at cores moves the fault, so it comes first.
            see("fault");
            see("trace");
            for (int what = 0; what < 8; what++) {
                see("told", what);
            }
            int joints = (int) ask("told", 0);
            int cracks = (int) ask("told", 1);
            for (int j = 0; j < joints; j++) {
                lookAtJoint(j);
            }
            for (int c = 0; c < cracks; c++) {
                lookAtCrack(c);
            }
            seeFraction("work");
            see("open");
            for (int t = 1; t <= 12; t++) {
                see("ways", t);
            }
            for (int k = 0; k < 4; k++) {
                answers.put("core " + k, coreText(k));
            }
            lookAtKept(cracks);
            due("calls within 512", calls <= MOST_CALLS, true);
            return answers;
        }

        private void lookAtJoint(int joint) {
            for (int what = 0; what < 4; what++) {
                see("at", joint, what);
            }
            seeFraction("head", joint);
            seeFraction("in", joint);
        }

        private void lookAtCrack(int c) {
            for (int what = 0; what < 7; what++) {
                see("about", c, what);
            }
            seeFraction("flow", c);
            see("eats", c);
            for (int t = 1; t <= 5; t++) {
                see("through", c, t);
            }
            for (int kind = 0; kind < 5; kind++) {
                see("as", c, kind);
            }
        }

        private String coreText(int k) {
            for (int lane = 0; lane < 4; lane++) {
                StringBuilder text = new StringBuilder(lane + ":");
                long cell = ask("cell", k, 0, lane);
                long fault = ask("fault");
                if (fault == 1) {
                    return "nothing";
                }
                for (int i = 1; fault == 0; i++) {
                    text.append(' ').append(cell);
                    cell = ask("cell", k, i, lane);
                    fault = ask("fault");
                }
                if (fault == 3) {
                    return text.toString();
                }
            }
            return "of no lane";
        }

        /** Kept rocks under how many there were, the latest being the highest. */
        private void lookAtKept(int cracks) {
            Map<Integer, String> kept = new TreeMap<>();
            long left = ask("back");
            while (left >= 0) {
                StringBuilder text = new StringBuilder("step " + ask("told", 2));
                for (int c = 0; c < cracks; c++) {
                    text.append(", ").append(ask("about", c, 3)).append(' ').append(ask("about", c, 5));
                }
                kept.put((int) left + 1, text.toString());
                left = ask("back");
            }
            kept.forEach((number, text) -> answers.put("kept " + number, text));
        }
    }

    // ---- how tests are made

    /** Behind the call, these and no other answers are others; "gone" where there is none any more. */
    private static void changes(String call, long answer, String... rows) {
        changesBehind("", call, answer, rows);
    }

    private static void changesBehind(String more, String call, long answer, String... rows) {
        Seen called = new Seen().play(BASE).play(more);
        due(call, called.make(call), answer);
        Map<String, String> with = called.look();
        Map<String, String> without = new Seen().play(BASE).play(more).look();
        Map<String, String> got = new TreeMap<>();
        for (String label : with.keySet()) {
            if (!with.get(label).equals(without.get(label))) {
                got.put(label, with.get(label));
            }
        }
        for (String label : without.keySet()) {
            if (!with.containsKey(label)) {
                got.put(label, "gone");
            }
        }
        due("what " + call + " changes", got, wanted(rows));
    }

    private static Map<String, String> wanted(String... rows) {
        Map<String, String> want = new TreeMap<>();
        for (String row : String.join(";", rows).split("[;\n]")) {
            if (!row.isBlank()) {
                String[] sides = row.trim().split(" = ");
                want.put(sides[0], sides[1]);
            }
        }
        return want;
    }

    // ---- tests

    /** Joint 1 gives 4 h and gets 2 (10 - h), so its head is 10/3. */
    private static void base() {
        Map<String, String> want = wanted("""
            fault = 2; trace = 1; told 0 = 4; told 1 = 5; told 2 = 1; told 3 = 10; told 4 = 2; told 5 = 1; told 6 = 4
            told 7 = 8; at 0 0 = 1; at 0 1 = 10; at 0 2 = 0; at 0 3 = 3; at 1 0 = 0; at 1 1 = -9; at 1 2 = 0; at 1 3 = 2
            at 2 0 = 1; at 2 1 = 0; at 2 2 = 0; at 2 3 = 3; at 3 0 = 0; at 3 1 = -9; at 3 2 = 1; at 3 3 = 0
            head 0 = 10/1; head 1 = 10/3; head 2 = 0/1; head 3 = LOST; in 0 = 340/3; in 1 = LOST; in 2 = -340/3
            in 3 = LOST; flow 0 = 40/3; flow 1 = 40/3; flow 2 = 0/1; flow 3 = 10/1; flow 4 = -90/1; work = 3400/3
            eats 0 = 133; eats 1 = 133; eats 2 = 0; eats 3 = 100; eats 4 = 0; open = 3; ways 1 = 3; ways 2 = 2
            ways 3 = 1; ways 4 = 0; ways 12 = 0; through 0 2 = 1; through 0 3 = 0; through 1 2 = 1; through 1 3 = 0
            through 2 1 = 0; through 3 1 = 1; through 3 2 = 0; through 4 3 = 1; through 4 4 = 0
            about 0 5 = 133; about 1 5 = 133; about 1 6 = 4; about 2 5 = 0; about 3 5 = 0; about 4 5 = 0; about 4 6 = 9
            core 0 = 2: 3 4 13; core 1 = nothing; core 2 = 0: -1 0; core 3 = nothing
            kept 1 = step 0, 2 0, 2 0, 0 0, 1 0, 3 0
            """);
        Map<String, String> got = new Seen().play(BASE).look();
        for (String label : want.keySet()) {
            due("base: " + label, String.valueOf(got.get(label)), want.get(label));
        }
    }

    private static void joints() {
        changes("joint()", 4, "told 0 = 5; told 5 = 2; at 4 0 = 0; at 4 1 = -9; at 4 2 = 1; at 4 3 = 0",
            "head 4 = LOST; in 4 = LOST");
        changes("hold(3, 7)", 1, "at 3 0 = 1; at 3 1 = 7; at 3 2 = 0; head 3 = 7/1; in 3 = 0/1; told 4 = 3; told 5 = 0");
        // The highest is now where no crack leads.
        changes("hold(3, 11)", 1, "at 3 0 = 1; at 3 1 = 11; at 3 2 = 0; head 3 = 11/1; in 3 = 0/1; told 4 = 3; told 5 = 0",
            "open = 0; ways 1 = 0; ways 2 = 0; ways 3 = 0; through 0 1 = 0; through 0 2 = 0; through 1 1 = 0",
            "through 1 2 = 0; through 3 1 = 0; through 4 1 = 0; through 4 2 = 0; through 4 3 = 0");
        changes("hold(0, 20)", 1, "at 0 1 = 20; head 0 = 20/1; head 1 = 20/3; flow 0 = 80/3; flow 1 = 80/3; flow 3 = 20/1",
            "flow 4 = -180/1; in 0 = 680/3; in 2 = -680/3; work = 13600/3; eats 0 = 266; eats 1 = 266; eats 3 = 200");
        changes("hold(1, 4)", 1, "at 1 0 = 1; at 1 1 = 4; head 1 = 4/1; flow 0 = 12/1; flow 1 = 16/1; in 0 = 112/1",
            "in 1 = 4/1; in 2 = -116/1; work = 1136/1; eats 0 = 120; eats 1 = 160; told 4 = 3");
        changes("hold(2, 0)", 1);
        changes("free(2)", 1, "at 2 0 = 0; at 2 1 = -9; head 1 = 10/1; head 2 = 10/1; flow 0 = 0/1; flow 1 = 0/1",
            "flow 3 = 0/1; flow 4 = 0/1; in 0 = 0/1; in 2 = LOST; work = 0/1; eats 0 = 0; eats 1 = 0; eats 3 = 0",
            "told 4 = 1; open = 0; ways 1 = 0; ways 2 = 0; ways 3 = 0; through 0 1 = 0; through 0 2 = 0; through 1 1 = 0",
            "through 1 2 = 0; through 3 1 = 0; through 4 1 = 0; through 4 2 = 0; through 4 3 = 0");
        changes("free(1)", 0);
        changesBehind("free(2)", "free(0)", 1, "at 0 0 = 0; at 0 1 = -9; at 0 2 = 1; at 1 2 = 1; at 2 2 = 1; head 0 = LOST",
            "head 1 = LOST; head 2 = LOST; in 0 = LOST; told 4 = 0; told 5 = 4");
    }

    private static void cracks() {
        changes("crack(3, 0, 4, 3, 5)", 5, "told 1 = 6; told 5 = 0; told 6 = 5; told 7 = 11; at 0 3 = 4; at 3 2 = 0",
            "at 3 3 = 1; head 3 = 10/1; about 5 0 = 3; about 5 1 = 0; about 5 2 = 4; about 5 3 = 3; about 5 4 = 5",
            "about 5 5 = 0; about 5 6 = 9; flow 5 = 0/1; eats 5 = 0; through 5 1 = 0; through 5 2 = 0; through 5 3 = 0",
            "through 5 4 = 0; through 5 5 = 0; as 5 0 = 1; as 5 1 = 1; as 5 2 = -12; as 5 3 = 1; as 5 4 = 1",
            "kept 1 = step 0, 2 0, 2 0, 0 0, 1 0, 3 0, 3 0");
        // A shut one moves no water and no way.
        changes("crack(1, 2, 2, 0, 12)", 5, "told 1 = 6; about 5 0 = 1; about 5 1 = 2; about 5 2 = 2; about 5 3 = 0",
            "about 5 4 = 12; about 5 5 = 0; about 5 6 = 0; flow 5 = 0/1; eats 5 = 0; through 5 1 = 0; through 5 2 = 0",
            "through 5 3 = 0; through 5 4 = 0; through 5 5 = 0; as 5 0 = 1; as 5 1 = -12; as 5 2 = 1; as 5 3 = -12",
            "as 5 4 = -12; kept 1 = step 0, 2 0, 2 0, 0 0, 1 0, 3 0, 0 0");
        changes("widths(0, 2, 0, 2, 0)", 2, "about 0 3 = 3; about 0 5 = 0; about 0 6 = 3; about 1 3 = 4; about 1 5 = 0",
            "about 1 6 = 16; head 1 = 30/19; flow 0 = 480/19; flow 1 = 480/19; in 0 = 2380/19; in 2 = -2380/19",
            "work = 23800/19; eats 0 = 252; eats 1 = 252; told 7 = 11; ways 3 = 2; through 0 3 = 1; through 1 3 = 1",
            "fault = 0");
        changes("widths(0, 2, 0, 0, 0)", 0, "fault = 0");
        changes("width(2, 1)", 0, "about 2 3 = 1; about 2 6 = 1; at 1 3 = 3; at 3 2 = 0; at 3 3 = 1; head 3 = 10/3",
            "told 5 = 0; told 6 = 5; told 7 = 9");
        changes("width(0, 2)", 2, "about 0 5 = 0");
        changes("width(4, 0)", 3, "about 4 3 = 0; about 4 6 = 0; at 0 3 = 2; at 2 3 = 2; flow 4 = 0/1; in 0 = 70/3",
            "in 2 = -70/3; work = 700/3; told 6 = 3; told 7 = 5; open = 2; ways 1 = 2; ways 2 = 1; ways 3 = 0",
            "through 4 1 = 0; through 4 2 = 0; through 4 3 = 0");
    }

    private static void steps() {
        changes("rate(20)", 10, "told 3 = 20; eats 0 = 266; eats 1 = 266; eats 3 = 200");
        changes("rate(10)", 10);
        changes("step(0)", 0);
        changes("step(1)", 0, "told 2 = 2; about 0 5 = 266; about 1 5 = 266; about 3 5 = 100; eats 3 = 0");
        changes("step(4)", 0, "told 2 = 5; about 0 5 = 665; about 1 5 = 665; about 3 5 = 200; about 4 5 = 900");
        // Just in the last of these steps cracks 0 and 1 come to 1064.
        changes("step(7)", 2, "told 2 = 8; told 7 = 10; about 0 3 = 3; about 0 5 = 64; about 0 6 = 3; about 1 3 = 3",
            "about 1 5 = 64; about 1 6 = 9; about 3 5 = 400; about 4 5 = 900; head 1 = 5/2; flow 0 = 45/2; flow 1 = 45/2",
            "in 0 = 245/2; in 2 = -245/2; work = 1225/1; eats 0 = 225; eats 1 = 225; eats 3 = 0; ways 3 = 2",
            "through 0 3 = 1; through 1 3 = 1");
        changesBehind("width(2, 6); hold(3, 0); width(1, 0); rate(80)", "step(1)", 2, """
            told 2 = 2; about 0 3 = 3; about 0 5 = 333; about 0 6 = 3; about 2 3 = 5; about 2 5 = 200
            about 2 6 = 5; about 3 5 = 800; head 1 = 15/4; flow 0 = 75/4; flow 2 = 75/4; in 0 = 475/4; in 3 = -75/4
            work = 2375/2; eats 0 = 1500; eats 2 = 1500; eats 3 = 0; through 0 3 = 1; through 2 3 = 1; ways 3 = 2
            """);
        changes("run(3)", 0);
        // In step 10 the tube comes to 1800.
        changes("run(4)", 9, "told 2 = 10; told 7 = 11; about 0 3 = 3; about 0 5 = 514; about 0 6 = 3; about 1 3 = 3",
            "about 1 5 = 514; about 1 6 = 9; about 3 5 = 500; about 4 3 = 4; about 4 5 = 800; about 4 6 = 16; head 1 = 5/2",
            "flow 0 = 45/2; flow 1 = 45/2; flow 4 = -160/1; in 0 = 385/2; in 2 = -385/2; work = 1925/1; eats 0 = 225",
            "eats 1 = 225; eats 3 = 0; open = 4; ways 3 = 2; ways 4 = 1; through 0 3 = 1; through 1 3 = 1; through 4 4 = 1");
        changesBehind("free(0); free(2)", "run(12)", -9, "told 2 = 201");
        changes("keep()", 2, "kept 2 = step 1, 2 133, 2 133, 0 0, 1 0, 3 0");
        changes("back()", 0, "told 2 = 0; about 0 5 = 0; about 1 5 = 0; eats 3 = 0; kept 1 = gone");
        changesBehind("keep(); crack(0, 1, 0, 0, 1); step(1); rate(7)", "back()", 1,
            "told 2 = 1; about 0 5 = 133; about 1 5 = 133; about 3 5 = 0; eats 3 = 70", "kept 2 = gone");
    }

    private static void cores() {
        changes("core(1, 3, 2)", 1, "core 1 = 3: 0 0; fault = 0");
        changes("core(1, 1, 0)", 1, "core 1 = 1:; fault = 0");
        changes("core(0, 2, 3)", 1, "core 0 = 2: 0 0 0; fault = 0");
        changes("core(0, 0, 1)", 1, "core 0 = 0: 0; fault = 0");
        changes("lose(0)", 1, "core 0 = nothing");
        changes("lose(1)", 0);
        changes("put(0, 1, 4294967305)", 1, "core 0 = 2: 3 9 13; fault = 0");
        changes("put(2, 1, 300)", 1, "core 2 = 0: -1 44; fault = 0");
        changes("cell(0, 2, 2)", 13, "fault = 0");
        changes("copy(0, 0, 0, 1, 2)", 2, "core 0 = 2: 3 3 4; fault = 0");
        changes("copy(0, 3, 0, 0, 0)", 0, "fault = 0");
        changesBehind("core(3, 2, 2)", "copy(0, 1, 3, 0, 2)", 2, "core 3 = 2: 4 13");
    }

    private static void parts() {
        changes("tell(0)", 2, "trace = 32");
        changes("tell(1)", 20, "trace = 1024");
        changes("tell(2)", -20, "trace = 1055");
        changes("tell(3)", 10, "trace = 1024");
        changes("tell(4)", 8, "trace = 1086");
        changes("judge(0)", 100, "trace = 36");
        changes("judge(1)", 101, "trace = 36");
        changes("judge(2)", 102, "trace = 36");
        changes("judge(3)", 2, "trace = 37");
        changes("judge(4)", 5, "trace = 37");
        changes("as(4, 3)", 1, "fault = 0");
        changes("trace()", 1);
        changes("fault()", 2);
    }

    private static void callsThatOnlyLook() {
        changes("about(0, 5)", 133);
        changes("at(1, 2)", 0);
        changes("at(0, 1)", 10);
        changes("head(1, 0)", 10);
        changes("head(1, 1)", 3);
        changes("flow(4, 0)", -90);
        changes("in(0, 0)", 340);
        changes("work(1)", 3);
        changes("ways(1)", 3);
        changes("through(0, 2)", 1);
        changes("open()", 3);
        changes("eats(0)", 133);
        changes("told(7)", 8);
    }

    /** Calls on one object show nowhere on another one, whichever was made first. */
    private static void objectsApart() {
        Map<String, String> want = new Seen().play(BASE).look();
        String calls = """
            head(1, 0); joint(); hold(0, 77); hold(3, 5); crack(3, 1, 1, 9, 9); width(0, 7); rate(50); step(5); run(12)
            keep(); keep(); tell(4); judge(1); core(1, 3, 4); put(1, 1, 5); core(0, 3, 4); lose(2); put(3, 0, 0)
            """;
        Seen elder = new Seen().play(BASE);
        Seen busy = new Seen().play(BASE).play(calls);
        Seen younger = new Seen().play(BASE);
        busy.play(calls);
        due("an elder object", elder.look(), want);
        due("a younger object", younger.look(), want);
        Seen one = new Seen();
        Seen other = new Seen();
        for (String call : BASE.split("[;\n]")) {
            one.play(call);
            other.play(call);
        }
        due("one of two in turns", one.look(), want);
        due("the other of two in turns", other.look(), want);
    }

    public static void main(String[] args) {
        for (Method method : WideningCracks.class.getDeclaredMethods()) {
            METHODS.put(method.getName(), method);
        }
        base();
        joints();
        cracks();
        steps();
        cores();
        parts();
        callsThatOnlyLook();
        objectsApart();
        System.out.println(asked + " answers and changes, " + wrong + " not as due");
        if (wrong != 0) {
            System.exit(1);
        }
    }
}
