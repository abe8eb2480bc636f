/** Each promise of the document by its number: ordinary inputs, edges, wrong inputs. */
public final class PromiseTests {
    private static final int UNKNOWN = -1, OUTSIDE = -2, STATE = -3, FULL = -4, NONE = -9;
    private static final long LOST = Long.MIN_VALUE;
    private static final int AS_NULL = -11, AS_CAST = -12, AS_INDEX = -13, AS_SIZE = -14;
    private static final int[] BAD = {-1, Integer.MIN_VALUE, Integer.MAX_VALUE};

    private static int wrong = 0;
    private static int asked = 0;

    private static void due(String what, long got, long want) {
        asked++;
        if (got != want) {
            wrong++;
            System.out.println(what + " answered " + got + ", due is " + want);
        }
    }

    private static void dueFault(String what, WideningCracks x, long got, long want, int fault) {
        due(what, got, want);
        due(what + ", then fault()", x.fault(), fault);
    }

    private static void dueFraction(String what, long upper, long lower, long wantUpper, long wantLower) {
        due(what + " upper", upper, wantUpper);
        due(what + " lower", lower, wantLower);
    }

    private static WideningCracks withJoints(int n) {
        WideningCracks x = new WideningCracks();
        for (int j = 0; j < n; j++) {
            x.joint();
        }
        return x;
    }

    /** Joint 0 held high, 1 held at 0, and one crack from 0 to 1. */
    private static WideningCracks single(int head, int kind, int width, int number) {
        WideningCracks x = withJoints(2);
        x.hold(0, head);
        x.hold(1, 0);
        x.crack(0, 1, kind, width, number);
        return x;
    }

    /** 0 (held at 60) - 1 - 2 (held at 0), of widths 2 and 4. */
    private static WideningCracks chain() {
        WideningCracks x = withJoints(3);
        x.hold(0, 60);
        x.hold(2, 0);
        x.crack(0, 1, 0, 2, 1);
        x.crack(1, 2, 0, 4, 1);
        return x;
    }

    private static WideningCracks allKinds() {
        WideningCracks x = withJoints(2);
        for (int kind = 0; kind < 5; kind++) {
            x.crack(0, 1, kind, kind + 2, kind + 5);
        }
        return x;
    }

    private static void p01NewObject() {
        WideningCracks x = new WideningCracks();
        int[] want = {0, 0, 0, 10, 0, 0, 0, 0};
        for (int what = 0; what < 8; what++) {
            due("p1 told " + what, x.told(what), want[what]);
        }
        for (int k = 0; k < 4; k++) {
            due("p1 no core " + k, x.lose(k), 0);
        }
        due("p1 trace", x.trace(), 0);
        due("p1 fault", x.fault(), 0);
        due("p1 nothing kept", x.back(), STATE);
        due("p1 constants", WideningCracks.UNKNOWN, UNKNOWN);
        due("p1 constants", WideningCracks.OUTSIDE, OUTSIDE);
        due("p1 constants", WideningCracks.STATE, STATE);
        due("p1 constants", WideningCracks.FULL, FULL);
        due("p1 constants", WideningCracks.NONE, NONE);
        due("p1 constants", WideningCracks.LOST, LOST);
    }

    private static void p02Joint() {
        WideningCracks x = new WideningCracks();
        for (int j = 0; j < 6; j++) {
            due("p2 joint " + j, x.joint(), j);
            due("p2 is free", x.at(j, 0), 0);
        }
        due("p2 full", x.joint(), FULL);
        due("p2 count", x.told(0), 6);
        due("p2 a joint more is dry", x.told(5), 6);
    }

    private static void p03Hold() {
        WideningCracks x = withJoints(2);
        due("p3 hold 0", x.hold(0, 0), 1);
        due("p3 held", x.at(0, 0), 1);
        due("p3 head", x.at(0, 1), 0);
        due("p3 hold again", x.hold(0, 100), 1);
        due("p3 head", x.at(0, 1), 100);
        due("p3 above", x.hold(0, 101), OUTSIDE);
        due("p3 unchanged", x.at(0, 1), 100);
        for (int bad : BAD) {
            due("p3 joint " + bad, x.hold(bad, 5), UNKNOWN);
            due("p3 head " + bad, x.hold(1, bad), OUTSIDE);
        }
        due("p3 joint before head", x.hold(2, -1), UNKNOWN);
        due("p3 other stays free", x.at(1, 0), 0);
    }

    private static void p04Free() {
        WideningCracks x = withJoints(2);
        due("p4 was free", x.free(0), 0);
        x.hold(0, 7);
        due("p4 free", x.free(0), 1);
        due("p4 is free", x.at(0, 0), 0);
        due("p4 no head", x.at(0, 1), NONE);
        due("p4 dry", x.at(0, 2), 1);
        due("p4 again", x.free(0), 0);
        due("p4 unknown", x.free(2), UNKNOWN);
        for (int bad : BAD) {
            due("p4 unknown", x.free(bad), UNKNOWN);
        }
    }

    private static void p05Crack() {
        WideningCracks x = withJoints(3);
        due("p5 first", x.crack(2, 0, 4, 12, 12), 0);
        int[] want = {2, 0, 4, 12, 12, 0, 144};
        for (int what = 0; what < 7; what++) {
            due("p5 about " + what, x.about(0, what), want[what]);
        }
        for (int bad : BAD) {
            due("p5 a", x.crack(bad, 0, 0, 1, 1), UNKNOWN);
            due("p5 b", x.crack(0, bad, 0, 1, 1), UNKNOWN);
            due("p5 kind", x.crack(0, 1, bad, 1, 1), OUTSIDE);
            due("p5 width", x.crack(0, 1, 0, bad, 1), OUTSIDE);
            due("p5 number", x.crack(0, 1, 0, 1, bad), OUTSIDE);
        }
        due("p5 a beyond", x.crack(3, 0, 0, 1, 1), UNKNOWN);
        due("p5 b beyond", x.crack(0, 3, 0, 1, 1), UNKNOWN);
        due("p5 same unknown", x.crack(3, 3, 0, 1, 1), UNKNOWN);
        due("p5 same", x.crack(1, 1, 0, 1, 1), OUTSIDE);
        due("p5 kind 5", x.crack(0, 1, 5, 1, 1), OUTSIDE);
        due("p5 width 13", x.crack(0, 1, 0, 13, 1), OUTSIDE);
        due("p5 number 0", x.crack(0, 1, 0, 1, 0), OUTSIDE);
        due("p5 number 13", x.crack(0, 1, 0, 1, 13), OUTSIDE);
        for (int c = 1; c < 12; c++) {
            due("p5 next", x.crack(0, 1, 0, 0, 1), c);
        }
        due("p5 full", x.crack(0, 1, 0, 0, 1), FULL);
        due("p5 outside before full", x.crack(0, 1, 5, 0, 1), OUTSIDE);
        due("p5 unknown before full", x.crack(0, 5, 0, 0, 1), UNKNOWN);
        due("p5 count", x.told(1), 12);
    }

    private static void p06Widths() {
        WideningCracks x = single(10, 0, 1, 1);
        x.crack(0, 1, 0, 1, 1);
        x.crack(0, 1, 0, 1, 1);
        x.rate(100);
        x.width(0, 0);
        x.step(1);
        due("p6 no store, shut", x.about(0, 5), 0);
        x.hold(0, 9);
        x.step(1);
        due("p6 a store", x.about(1, 5), 800);
        dueFault("p6 nothing", x, x.widths(1, 2, 0, 1, 0), AS_NULL, 1);
        dueFault("p6 nothing, size", x, x.widths(1, 2, 0, -1, 0), AS_NULL, 1);
        x.core(1, 2, 3);
        x.put(1, 1, 12);
        x.put(1, 2, 4);
        dueFault("p6 ordinary", x, x.widths(1, 2, 1, 2, 1), 2, 0);
        due("p6 width 0 stays", x.about(0, 3), 0);
        due("p6 width 1", x.about(1, 3), 12);
        due("p6 width 2", x.about(2, 3), 4);
        due("p6 store 1", x.about(1, 5), 0);
        due("p6 store 2", x.about(2, 5), 0);
        due("p6 flows follow", x.flow(1, 0), 108);
        for (int bad : BAD) {
            dueFault("p6 core", x, x.widths(bad, 2, 0, 1, 0), UNKNOWN, 0);
            dueFault("p6 c", x, x.widths(1, 2, 0, 1, bad), UNKNOWN, 0);
            dueFault("p6 lane", x, x.widths(1, bad, 0, 1, 0), OUTSIDE, 0);
            dueFault("p6 i", x, x.widths(1, 2, bad, 1, 0), AS_INDEX, 3);
        }
        dueFault("p6 core 4", x, x.widths(4, 2, 0, 1, 0), UNKNOWN, 0);
        dueFault("p6 c 3", x, x.widths(1, 2, 0, 0, 3), UNKNOWN, 0);
        dueFault("p6 unknown before lane", x, x.widths(1, 4, 0, 0, 3), UNKNOWN, 0);
        dueFault("p6 lane 4", x, x.widths(1, 4, 0, 1, 0), OUTSIDE, 0);
        dueFault("p6 lane before null", x, x.widths(2, 4, 0, 1, 0), OUTSIDE, 0);
        dueFault("p6 cast", x, x.widths(1, 3, 0, -1, 0), AS_CAST, 2);
        dueFault("p6 size", x, x.widths(1, 2, -1, -1, 0), AS_SIZE, 4);
        dueFault("p6 size", x, x.widths(1, 2, 0, Integer.MIN_VALUE, 0), AS_SIZE, 4);
        dueFault("p6 n beyond", x, x.widths(1, 2, 0, Integer.MAX_VALUE, 0), AS_INDEX, 3);
        dueFault("p6 n beyond", x, x.widths(1, 2, 1, Integer.MAX_VALUE, 0), AS_INDEX, 3);
        dueFault("p6 cells beyond", x, x.widths(1, 2, 1, 3, 0), AS_INDEX, 3);
        dueFault("p6 cracks beyond", x, x.widths(1, 2, 0, 3, 1), AS_INDEX, 3);
        dueFault("p6 none at the end", x, x.widths(1, 2, 3, 0, 2), 0, 0);
        dueFault("p6 none beyond the end", x, x.widths(1, 2, 4, 0, 2), AS_INDEX, 3);
        x.put(1, 2, 13);
        dueFault("p6 width 13", x, x.widths(1, 2, 0, 3, 0), OUTSIDE, 0);
        due("p6 nothing of it", x.about(1, 3), 12);
        x.put(1, 2, -1);
        dueFault("p6 width -1", x, x.widths(1, 2, 2, 1, 0), OUTSIDE, 0);
        dueFault("p6 index before width", x, x.widths(1, 2, 2, 2, 0), AS_INDEX, 3);
        x.core(2, 3, 1);
        x.put(2, 0, 4294967296L);
        dueFault("p6 long beyond", x, x.widths(2, 3, 0, 1, 0), OUTSIDE, 0);
    }

    private static void p07Width() {
        WideningCracks x = single(9, 0, 3, 1);
        x.step(1);
        due("p7 store", x.about(0, 5), 270);
        due("p7 what it was", x.width(0, 12), 3);
        due("p7 width", x.about(0, 3), 12);
        due("p7 store", x.about(0, 5), 0);
        due("p7 flow follows", x.flow(0, 0), 108);
        due("p7 to 0", x.width(0, 0), 12);
        due("p7 above", x.width(0, 13), OUTSIDE);
        due("p7 unknown first", x.width(1, 13), UNKNOWN);
        for (int bad : BAD) {
            due("p7 c", x.width(bad, 1), UNKNOWN);
            due("p7 w", x.width(0, bad), OUTSIDE);
        }
        due("p7 stays", x.about(0, 3), 0);
        x.width(0, 3);
        x.step(1);
        x.width(0, 3);
        due("p7 the same width too", x.about(0, 5), 0);
    }

    private static void p08About() {
        WideningCracks x = allKinds();
        int[] lets = {2, 9, 4, 25, 36};
        for (int c = 0; c < 5; c++) {
            int[] want = {0, 1, c, c + 2, c + 5, 0, lets[c]};
            for (int what = 0; what < 7; what++) {
                due("p8 about " + c + " " + what, x.about(c, what), want[what]);
            }
        }
        due("p8 what 7", x.about(0, 7), OUTSIDE);
        due("p8 unknown first", x.about(5, 7), UNKNOWN);
        for (int bad : BAD) {
            due("p8 c", x.about(bad, 0), UNKNOWN);
            due("p8 what", x.about(0, bad), OUTSIDE);
        }
    }

    private static void p09At() {
        WideningCracks x = withJoints(4);
        x.hold(0, 33);
        x.crack(0, 1, 0, 1, 1);
        x.crack(1, 2, 0, 0, 1);
        x.crack(2, 3, 0, 5, 1);
        x.crack(1, 0, 1, 2, 1);
        int[][] want = {{1, 33, 0, 2}, {0, NONE, 0, 2}, {0, NONE, 1, 1}, {0, NONE, 1, 1}};
        for (int j = 0; j < 4; j++) {
            for (int what = 0; what < 4; what++) {
                due("p9 at " + j + " " + what, x.at(j, what), want[j][what]);
            }
        }
        x.width(1, 1);
        due("p9 wet by joints between", x.at(3, 2), 0);
        x.free(0);
        due("p9 dry without a held one", x.at(0, 2), 1);
        due("p9 what 4", x.at(0, 4), OUTSIDE);
        due("p9 unknown first", x.at(4, 4), UNKNOWN);
        for (int bad : BAD) {
            due("p9 joint", x.at(bad, 0), UNKNOWN);
            due("p9 what", x.at(0, bad), OUTSIDE);
        }
        WideningCracks y = withJoints(1);
        y.hold(0, 0);
        due("p9 a held one alone is not dry", y.at(0, 2), 0);
    }

    private static void p10Head() {
        WideningCracks x = chain();
        dueFraction("p10 held", x.head(0, 0), x.head(0, 1), 60, 1);
        dueFraction("p10 between", x.head(1, 0), x.head(1, 1), 20, 1);
        dueFraction("p10 held at 0", x.head(2, 0), x.head(2, 1), 0, 1);
        x.hold(2, 1);
        dueFraction("p10 lowest terms", x.head(1, 0), x.head(1, 1), 62, 3);
        x.joint();
        due("p10 dry", x.head(3, 0), LOST);
        due("p10 dry", x.head(3, 1), LOST);
        due("p10 unknown", x.head(4, 0), LOST);
        due("p10 which 2", x.head(0, 2), LOST);
        for (int bad : BAD) {
            due("p10 joint", x.head(bad, 0), LOST);
            due("p10 which", x.head(0, bad), LOST);
        }
        x.free(2);
        dueFraction("p10 one held", x.head(2, 0), x.head(2, 1), 60, 1);
        p10Greatest();
    }

    /** Five free joints and all cracks as wide as can be: the greatest determinant. */
    private static void p10Greatest() {
        WideningCracks x = withJoints(6);
        x.hold(0, 100);
        for (int a = 0; a < 6; a++) {
            for (int b = a + 1; b < 6; b++) {
                if (a + b != 5) {
                    x.crack(a, b, 1, 12, 1);
                }
            }
        }
        due("p10 twelve cracks", x.told(1), 12);
        for (int j = 0; j < 6; j++) {
            dueFraction("p10 all at one head", x.head(j, 0), x.head(j, 1), 100, 1);
        }
        x.hold(5, 1);
        for (int j = 1; j < 5; j++) {
            dueFraction("p10 by symmetry", x.head(j, 0), x.head(j, 1), 101, 2);
        }
        dueFraction("p12 greatest", x.in(0, 0), x.in(0, 1), 28512, 1);
        dueFraction("p13 greatest", x.work(0), x.work(1), 2822688, 1);
    }

    private static void p11Flow() {
        WideningCracks x = chain();
        dueFraction("p11 down", x.flow(0, 0), x.flow(0, 1), 80, 1);
        dueFraction("p11 down", x.flow(1, 0), x.flow(1, 1), 80, 1);
        x.hold(2, 1);
        x.crack(2, 0, 1, 3, 1);
        dueFraction("p11 lowest terms", x.flow(0, 0), x.flow(0, 1), 236, 3);
        dueFraction("p11 against it", x.flow(2, 0), x.flow(2, 1), -531, 1);
        x.width(2, 0);
        dueFraction("p11 shut", x.flow(2, 0), x.flow(2, 1), 0, 1);
        x.free(0);
        x.free(2);
        dueFraction("p11 dry", x.flow(0, 0), x.flow(0, 1), 0, 1);
        due("p11 unknown", x.flow(3, 0), LOST);
        due("p11 which 2", x.flow(0, 2), LOST);
        for (int bad : BAD) {
            due("p11 c", x.flow(bad, 0), LOST);
            due("p11 which", x.flow(0, bad), LOST);
        }
        long[] amounts = {20, 90, 40, 250, 360};
        for (int kind = 0; kind < 5; kind++) {
            due("p11 kind " + kind, single(10, kind, kind + 2, 1).flow(0, 0), amounts[kind]);
        }
    }

    private static void p12In() {
        WideningCracks x = chain();
        x.hold(2, 1);
        x.crack(2, 0, 1, 3, 1);
        dueFraction("p12 in", x.in(0, 0), x.in(0, 1), 1829, 3);
        dueFraction("p12 out", x.in(2, 0), x.in(2, 1), -1829, 3);
        due("p12 free", x.in(1, 0), LOST);
        x.joint();
        x.hold(3, 5);
        dueFraction("p12 alone", x.in(3, 0), x.in(3, 1), 0, 1);
        due("p12 unknown", x.in(4, 0), LOST);
        due("p12 which 2", x.in(0, 2), LOST);
        for (int bad : BAD) {
            due("p12 joint", x.in(bad, 0), LOST);
            due("p12 which", x.in(0, bad), LOST);
        }
    }

    private static void p13Work() {
        WideningCracks x = new WideningCracks();
        dueFraction("p13 nothing", x.work(0), x.work(1), 0, 1);
        x = chain();
        dueFraction("p13 chain", x.work(0), x.work(1), 4800, 1);
        x.hold(2, 1);
        x.crack(2, 0, 1, 3, 1);
        dueFraction("p13 more", x.work(0), x.work(1), 107911, 3);
        due("p13 which 2", x.work(2), LOST);
        for (int bad : BAD) {
            due("p13 which", x.work(bad), LOST);
        }
    }

    private static void p14Rate() {
        WideningCracks x = single(1, 0, 1, 1);
        due("p14 first", x.rate(1), 10);
        due("p14 eats", x.eats(0), 1);
        due("p14 then", x.rate(100), 1);
        due("p14 eats", x.eats(0), 100);
        due("p14 0", x.rate(0), OUTSIDE);
        due("p14 101", x.rate(101), OUTSIDE);
        for (int bad : BAD) {
            due("p14 bad", x.rate(bad), OUTSIDE);
        }
        due("p14 told", x.told(3), 100);
    }

    private static void dueCrack(String what, WideningCracks x, int width, int store) {
        due(what + " width", x.about(0, 3), width);
        due(what + " store", x.about(0, 5), store);
    }

    private static void p15Step() {
        WideningCracks x = single(35, 0, 1, 1);
        due("p15 none", x.step(0), 0);
        due("p15 no step", x.told(2), 0);
        due("p15 two", x.step(2), 0);
        dueCrack("p15 two", x, 1, 700);
        due("p15 one more", x.step(1), 1);
        dueCrack("p15 one more", x, 2, 50);
        due("p15 steps", x.told(2), 3);
        due("p15 51", x.step(51), OUTSIDE);
        for (int bad : BAD) {
            due("p15 bad", x.step(bad), OUTSIDE);
        }
        due("p15 steps stay", x.told(2), 3);
        due("p15 fifty, by up to three at once", x.step(50), 6);
        dueCrack("p15 widest", x, 12, 0);
        due("p15 no further", x.step(5), 0);
        dueCrack("p15 no further", x, 12, 0);
        p15Kinds();
        p15Tube();
        p15Together();
    }

    private static void p15Kinds() {
        WideningCracks wide = single(50, 1, 2, 1);
        due("p15 wide", wide.step(1), 1);
        dueCrack("p15 wide", wide, 4, 0);
        wide = single(50, 1, 3, 1);
        due("p15 wide by four", wide.step(1), 1);
        dueCrack("p15 wide by four", wide, 7, 500);
        WideningCracks clogging = single(35, 2, 5, 1);
        due("p15 clogging", clogging.step(1), 1);
        dueCrack("p15 clogging", clogging, 4, 750);
        due("p15 clogging", clogging.step(50), 3);
        dueCrack("p15 clogged", clogging, 0, 0);
        WideningCracks exact = single(100, 2, 1, 1);
        due("p15 just 1000", exact.step(1), 1);
        dueCrack("p15 just 1000", exact, 0, 0);
        WideningCracks hard = single(100, 3, 1, 3);
        due("p15 hard waits", hard.step(2), 0);
        dueCrack("p15 hard waits", hard, 1, 0);
        due("p15 hard eats", hard.step(1), 1);
        dueCrack("p15 hard eats", hard, 2, 0);
        due("p15 hard waits", hard.step(2), 0);
        due("p15 hard by four", hard.step(1), 1);
        dueCrack("p15 hard by four", hard, 6, 0);
    }

    private static void p15Tube() {
        WideningCracks tube = single(77, 4, 1, 3);
        due("p15 tube waits", tube.step(2), 0);
        due("p15 tube eats", tube.step(1), 0);
        dueCrack("p15 tube eats", tube, 1, 770);
        due("p15 tube eats", tube.step(3), 1);
        dueCrack("p15 tube eats", tube, 2, 540);
        due("p15 tube to its number", tube.step(3), 1);
        dueCrack("p15 tube to its number", tube, 3, 0);
        due("p15 tube no further", tube.step(6), 0);
        dueCrack("p15 tube no further", tube, 3, 0);
        due("p15 tube still eats", tube.eats(0), 0);
        tube.step(2);
        due("p15 tube still eats", tube.eats(0), 6930);
        WideningCracks beyond = single(77, 4, 9, 2);
        due("p15 tube beyond its number", beyond.step(4), 0);
        dueCrack("p15 tube beyond its number", beyond, 9, 0);
    }

    /** Flows of a step are those ahead of it, for every crack. */
    private static void p15Together() {
        WideningCracks x = chain();
        x.rate(100);
        due("p15 both", x.step(1), 2);
        due("p15 first", x.about(0, 3), 10);
        due("p15 second", x.about(1, 3), 12);
        due("p15 stores", x.about(0, 5), 0);
        WideningCracks cut = chain();
        cut.hold(2, 1);
        cut.rate(1);
        due("p15 cut", cut.eats(0), 78);
        cut.hold(0, 0);
        cut.hold(2, 59);
        due("p15 amount", cut.eats(0), 78);
        due("p15 as it flows up", cut.step(1), 0);
        due("p15 as it flows up", cut.about(0, 5), 78);
    }

    private static void p16Run() {
        WideningCracks x = single(35, 0, 1, 1);
        due("p16 already", x.run(1), 0);
        due("p16 no step", x.told(2), 0);
        due("p16 to 2", x.run(2), 3);
        due("p16 steps", x.told(2), 3);
        WideningCracks shut = single(35, 0, 0, 1);
        due("p16 never", shut.run(1), NONE);
        due("p16 two hundred", shut.told(2), 200);
        WideningCracks last = single(1, 0, 1, 1);
        last.rate(5);
        due("p16 at the last", last.run(2), 200);
        due("p16 at the last", last.told(2), 200);
        WideningCracks late = single(1, 0, 1, 1);
        late.rate(4);
        due("p16 too late", late.run(2), NONE);
        due("p16 store", late.about(0, 5), 800);
        due("p16 0", x.run(0), OUTSIDE);
        due("p16 13", x.run(13), OUTSIDE);
        for (int bad : BAD) {
            due("p16 bad", x.run(bad), OUTSIDE);
        }
        due("p16 stays", x.told(2), 3);
    }

    /** 0 and 1 at 50, 4 and 5 at 10, 2 free, 3 held between; all joined over 2, and 4 with 5. */
    private static WideningCracks crossing() {
        WideningCracks x = withJoints(6);
        x.hold(0, 50);
        x.hold(1, 50);
        x.hold(3, 30);
        x.hold(4, 10);
        x.hold(5, 10);
        x.crack(0, 2, 0, 5, 1);
        x.crack(2, 1, 0, 3, 1);
        x.crack(2, 3, 0, 4, 1);
        x.crack(3, 4, 0, 2, 1);
        x.crack(3, 4, 0, 6, 1);
        x.crack(5, 4, 0, 1, 1);
        return x;
    }

    private static void p17Ways() {
        WideningCracks x = crossing();
        due("p17 at 1", x.ways(1), 8);
        due("p17 at 2", x.ways(2), 4);
        due("p17 at 3", x.ways(3), 2);
        due("p17 at 4", x.ways(4), 1);
        due("p17 at 5", x.ways(5), 0);
        x.crack(0, 1, 0, 12, 1);
        due("p17 through another highest", x.ways(4), 2);
        x.free(0);
        x.free(1);
        due("p17 from the middle", x.ways(1), 4);
        x.hold(3, 10);
        due("p17 highest is lowest", x.ways(1), 0);
        due("p17 nothing", new WideningCracks().ways(12), 0);
        due("p17 0", x.ways(0), OUTSIDE);
        due("p17 13", x.ways(13), OUTSIDE);
        for (int bad : BAD) {
            due("p17 bad", x.ways(bad), OUTSIDE);
        }
    }

    private static void p18Through() {
        WideningCracks x = crossing();
        int dead = x.crack(0, 1, 0, 12, 1);
        int[] wantAt1 = {1, 1, 1, 1, 1, 1, 1};
        int[] wantAt3 = {1, 1, 1, 0, 1, 0, 1};
        int[] wantAt4 = {1, 0, 1, 0, 1, 0, 1};
        for (int c = 0; c <= dead; c++) {
            due("p18 at 1, " + c, x.through(c, 1), wantAt1[c]);
            due("p18 at 3, " + c, x.through(c, 3), wantAt3[c]);
            due("p18 at 4, " + c, x.through(c, 4), wantAt4[c]);
            due("p18 at 5, " + c, x.through(c, 5), 0);
        }
        due("p18 0", x.through(0, 0), OUTSIDE);
        due("p18 13", x.through(0, 13), OUTSIDE);
        due("p18 unknown", x.through(7, 13), UNKNOWN);
        for (int bad : BAD) {
            due("p18 c", x.through(bad, 1), UNKNOWN);
            due("p18 t", x.through(0, bad), OUTSIDE);
        }
        WideningCracks end = chain();
        end.joint();
        end.crack(1, 3, 0, 9, 1);
        due("p18 a dead end", end.through(2, 1), 0);
        due("p18 beside a dead end", end.through(1, 2), 1);
    }

    private static void p19Open() {
        due("p19 nothing", new WideningCracks().open(), 0);
        due("p19 crossing", crossing().open(), 4);
        due("p19 widest", single(1, 0, 12, 1).open(), 12);
        due("p19 shut", single(1, 0, 0, 1).open(), 0);
        due("p19 all one head", single(0, 0, 5, 1).open(), 0);
        WideningCracks x = chain();
        due("p19 chain", x.open(), 2);
        x.width(0, 9);
        due("p19 chain, wider", x.open(), 4);
        x.free(2);
        due("p19 one held", x.open(), 0);
    }

    private static void p20Eats() {
        WideningCracks x = single(35, 0, 3, 1);
        due("p20 crack", x.eats(0), 1050);
        due("p20 changes nothing", x.about(0, 5), 0);
        due("p20 wide", single(35, 1, 3, 1).eats(0), 3150);
        due("p20 clogging", single(35, 2, 3, 1).eats(0), 1050);
        WideningCracks hard = single(35, 3, 3, 2);
        due("p20 hard in step 1", hard.eats(0), 0);
        hard.step(1);
        due("p20 hard in step 2", hard.eats(0), 3150);
        due("p20 tube in each step", single(35, 4, 3, 1).eats(0), 3150);
        WideningCracks widest = single(100, 1, 12, 1);
        widest.rate(100);
        due("p20 widest", widest.eats(0), 1440000);
        due("p20 unknown", x.eats(1), LOST);
        for (int bad : BAD) {
            due("p20 bad", x.eats(bad), LOST);
        }
    }

    private static void p21Told() {
        WideningCracks x = crossing();
        x.free(3);
        x.width(3, 0);
        x.rate(3);
        x.step(2);
        x.width(2, 0);
        x.width(4, 0);
        int[] want = {6, 6, 2, 3, 4, 1, 3, 9};
        for (int what = 0; what < 8; what++) {
            due("p21 told " + what, x.told(what), want[what]);
        }
        due("p21 8", x.told(8), OUTSIDE);
        for (int bad : BAD) {
            due("p21 bad", x.told(bad), OUTSIDE);
        }
    }

    private static void p22Keep() {
        WideningCracks x = single(35, 0, 0, 1);
        for (int times = 1; times <= 12; times++) {
            x.width(0, times);
            due("p22 keep", x.keep(), Math.min(times, 8));
        }
        x.width(0, 0);
        for (int left = 7; left >= 0; left--) {
            due("p22 back", x.back(), left);
            due("p22 the latest first", x.about(0, 3), left + 5);
        }
        due("p22 the eldest went", x.back(), STATE);
        due("p22 keep anew", x.keep(), 1);
    }

    private static void p23Back() {
        WideningCracks x = single(35, 0, 1, 1);
        due("p23 none", x.back(), STATE);
        x.step(2);
        due("p23 keep", x.keep(), 1);
        x.crack(0, 1, 0, 2, 1);
        x.rate(20);
        x.hold(0, 70);
        x.step(7);
        int width = x.about(1, 3);
        int store = x.about(1, 5);
        due("p23 back", x.back(), 0);
        dueCrack("p23 crack of then", x, 1, 700);
        due("p23 a later crack stays", x.about(1, 3), width);
        due("p23 its store too", x.about(1, 5), store);
        due("p23 steps", x.told(2), 2);
        due("p23 rate stays", x.told(3), 20);
        due("p23 hold stays", x.at(0, 1), 70);
        due("p23 crack stays", x.told(1), 2);
        due("p23 flows follow", x.flow(0, 0), 70);
        due("p23 none left", x.back(), STATE);
    }

    private static void p24Core() {
        WideningCracks x = new WideningCracks();
        for (int k = 0; k < 4; k++) {
            dueFault("p24 core " + k, x, x.core(k, k, 24), 1, 0);
            due("p24 at first", x.cell(k, 23, k), 0);
            x.put(k, 23, 5);
            due("p24 put", x.cell(k, 23, k), 5);
            due("p24 anew", x.core(k, k, 24), 1);
            due("p24 anew", x.cell(k, 23, k), 0);
        }
        dueFault("p24 none", x, x.core(0, 3, 0), 1, 0);
        dueFault("p24 none has no cell", x, x.cell(0, 0, 3), LOST, 3);
        dueFault("p24 25", x, x.core(0, 0, 25), OUTSIDE, 0);
        dueFault("p24 size", x, x.core(0, 0, -1), AS_SIZE, 4);
        dueFault("p24 size", x, x.core(0, 0, Integer.MIN_VALUE), AS_SIZE, 4);
        dueFault("p24 lane 4", x, x.core(0, 4, 1), OUTSIDE, 0);
        dueFault("p24 lane before size", x, x.core(0, 4, -1), OUTSIDE, 0);
        dueFault("p24 core before lane", x, x.core(4, 4, -1), UNKNOWN, 0);
        dueFault("p24 most", x, x.core(0, 0, Integer.MAX_VALUE), OUTSIDE, 0);
        for (int bad : BAD) {
            dueFault("p24 k", x, x.core(bad, 0, 1), UNKNOWN, 0);
            dueFault("p24 lane", x, x.core(0, bad, 1), OUTSIDE, 0);
        }
        dueFault("p24 as it was", x, x.put(0, 0, 1), AS_INDEX, 3);
        dueFault("p24 as it was", x, x.cell(0, 0, 0), LOST, 2);
    }

    private static void p25Lose() {
        WideningCracks x = new WideningCracks();
        x.core(3, 1, 2);
        due("p25 had", x.lose(3), 1);
        due("p25 had nothing", x.lose(3), 0);
        dueFault("p25 nothing", x, x.put(3, 0, 1), AS_NULL, 1);
        due("p25 lose names no fault", x.lose(3), 0);
        due("p25 so fault stays", x.fault(), 1);
        x.core(2, 0, 0);
        due("p25 a row of none", x.lose(2), 1);
        due("p25 4", x.lose(4), UNKNOWN);
        due("p25 fault stays", x.fault(), 0);
        for (int bad : BAD) {
            due("p25 bad", x.lose(bad), UNKNOWN);
        }
    }

    private static void p26Put() {
        WideningCracks x = new WideningCracks();
        long v = 0x1234_5678_9abc_def0L;
        long[] want = {(byte) 0xf0, (short) 0xdef0, 0x9abc_def0, v};
        for (int k = 0; k < 4; k++) {
            dueFault("p26 nothing", x, x.put(k, -1, 1), AS_NULL, 1);
            x.core(k, k, 3);
            dueFault("p26 put", x, x.put(k, 2, v), 1, 0);
            due("p26 cut to lane " + k, x.cell(k, 2, k), want[k]);
            x.put(k, 0, -1);
            due("p26 below 0", x.cell(k, 0, k), -1);
            dueFault("p26 beyond", x, x.put(k, 3, 1), AS_INDEX, 3);
            for (int bad : BAD) {
                dueFault("p26 i", x, x.put(k, bad, 1), AS_INDEX, 3);
                dueFault("p26 k", x, x.put(bad, 0, 1), UNKNOWN, 0);
            }
        }
        x.put(0, 0, 128);
        due("p26 128", x.cell(0, 0, 0), -128);
        x.put(1, 0, 32768);
        due("p26 32768", x.cell(1, 0, 1), -32768);
        x.put(2, 0, 2147483648L);
        due("p26 2147483648", x.cell(2, 0, 2), -2147483648);
        dueFault("p26 4", x, x.put(4, 0, 1), UNKNOWN, 0);
    }

    private static void p27Cell() {
        WideningCracks x = new WideningCracks();
        dueFault("p27 nothing is no cast", x, x.cell(1, 0, 3), LOST, 1);
        x.core(1, 1, 2);
        x.put(1, 1, 77);
        dueFault("p27 cell", x, x.cell(1, 1, 1), 77, 0);
        for (int lane = 0; lane < 4; lane++) {
            dueFault("p27 lane " + lane, x, x.cell(1, 9, lane), LOST, lane == 1 ? 3 : 2);
        }
        dueFault("p27 beyond", x, x.cell(1, 2, 1), LOST, 3);
        dueFault("p27 lane 4", x, x.cell(1, 0, 4), LOST, 0);
        dueFault("p27 core 4", x, x.cell(4, 0, 0), LOST, 0);
        x.cell(1, 2, 1);
        for (int bad : BAD) {
            dueFault("p27 i", x, x.cell(1, bad, 1), LOST, 3);
            dueFault("p27 k", x, x.cell(bad, 0, 1), LOST, 0);
            dueFault("p27 lane", x, x.cell(1, 0, bad), LOST, 0);
        }
    }

    private static void p28Copy() {
        WideningCracks x = new WideningCracks();
        dueFault("p28 nothing", x, x.copy(0, 0, 1, 0, 0), AS_NULL, 1);
        x.core(0, 2, 5);
        dueFault("p28 the other is nothing", x, x.copy(0, -1, 1, 0, 0), AS_NULL, 1);
        dueFault("p28 the first is nothing", x, x.copy(1, 0, 0, 0, 0), AS_NULL, 1);
        x.core(1, 2, 3);
        for (int i = 0; i < 5; i++) {
            x.put(0, i, i + 1);
        }
        dueFault("p28 to another", x, x.copy(0, 2, 1, 1, 2), 2, 0);
        long[] want = {0, 3, 4};
        for (int i = 0; i < 3; i++) {
            due("p28 cell " + i, x.cell(1, i, 2), want[i]);
        }
        dueFault("p28 up in itself", x, x.copy(0, 0, 0, 2, 3), 3, 0);
        long[] up = {1, 2, 1, 2, 3};
        for (int i = 0; i < 5; i++) {
            due("p28 up " + i, x.cell(0, i, 2), up[i]);
        }
        dueFault("p28 down in itself", x, x.copy(0, 1, 0, 0, 4), 4, 0);
        long[] down = {2, 1, 2, 3, 3};
        for (int i = 0; i < 5; i++) {
            due("p28 down " + i, x.cell(0, i, 2), down[i]);
        }
        dueFault("p28 none at both ends", x, x.copy(0, 5, 1, 3, 0), 0, 0);
        dueFault("p28 i beyond", x, x.copy(0, 6, 1, 0, 0), AS_INDEX, 3);
        dueFault("p28 j beyond", x, x.copy(0, 0, 1, 4, 0), AS_INDEX, 3);
        dueFault("p28 n beyond in the first", x, x.copy(1, 1, 0, 0, 3), AS_INDEX, 3);
        dueFault("p28 n beyond in the other", x, x.copy(0, 0, 1, 0, 4), AS_INDEX, 3);
        for (int bad : BAD) {
            dueFault("p28 i", x, x.copy(0, bad, 1, 0, 1), AS_INDEX, 3);
            dueFault("p28 j", x, x.copy(0, 0, 1, bad, 1), AS_INDEX, 3);
            dueFault("p28 n", x, x.copy(0, 1, 1, 1, bad), AS_INDEX, 3);
            dueFault("p28 k", x, x.copy(bad, 0, 1, 0, 1), UNKNOWN, 0);
            dueFault("p28 other", x, x.copy(0, 0, bad, 0, 1), UNKNOWN, 0);
        }
        x.core(2, 3, 3);
        dueFault("p28 cast before index", x, x.copy(0, -1, 2, 0, 1), AS_CAST, 2);
        dueFault("p28 unknown before null", x, x.copy(3, 0, 4, 0, 1), UNKNOWN, 0);
        dueFault("p28 null before cast", x, x.copy(3, 0, 2, 0, 1), AS_NULL, 1);
    }

    private static int bodies(int... numbers) {
        int trace = 0;
        for (int number : numbers) {
            trace = 31 * trace + number;
        }
        return trace;
    }

    private static void p29Tell() {
        int[] want = {2, 30, -16, 50, 15};
        int[] traces = {bodies(1), bodies(2, 1), bodies(3, 1), bodies(2, 1), bodies(4, 1)};
        for (int c = 0; c < 5; c++) {
            WideningCracks x = allKinds();
            due("p29 tell " + c, x.tell(c), want[c]);
            due("p29 trace " + c, x.trace(), traces[c]);
        }
        WideningCracks x = allKinds();
        due("p29 unknown", x.tell(5), UNKNOWN);
        for (int bad : BAD) {
            due("p29 bad", x.tell(bad), UNKNOWN);
        }
        due("p29 no body", x.trace(), 0);
        x.width(2, 0);
        due("p29 shut", x.tell(2), -20);
    }

    private static void p30Judge() {
        int[] want = {100, 101, 102, 8, 9};
        int[] traces = {5, 5, 5, 6, 6};
        for (int c = 0; c < 5; c++) {
            WideningCracks x = allKinds();
            due("p30 judge " + c, x.judge(c), want[c]);
            due("p30 trace " + c, x.trace(), traces[c]);
        }
        WideningCracks x = allKinds();
        due("p30 unknown", x.judge(5), UNKNOWN);
        for (int bad : BAD) {
            due("p30 bad", x.judge(bad), UNKNOWN);
        }
        due("p30 no body", x.trace(), 0);
    }

    private static void p31As() {
        WideningCracks x = allKinds();
        String[] isOne = {"10000", "11000", "10100", "11010", "11011"};
        for (int c = 0; c < 5; c++) {
            for (int kind = 0; kind < 5; kind++) {
                boolean is = isOne[c].charAt(kind) == '1';
                dueFault("p31 " + c + " as " + kind, x, x.as(c, kind), is ? 1 : AS_CAST, is ? 0 : 2);
            }
        }
        dueFault("p31 kind 5", x, x.as(0, 5), OUTSIDE, 0);
        dueFault("p31 unknown first", x, x.as(5, 5), UNKNOWN, 0);
        for (int bad : BAD) {
            dueFault("p31 c", x, x.as(bad, 0), UNKNOWN, 0);
            dueFault("p31 kind", x, x.as(0, bad), OUTSIDE, 0);
        }
        due("p31 leaves no trace", x.trace(), 0);
    }

    private static void p32Trace() {
        WideningCracks x = allKinds();
        int trace = 0;
        for (int times = 0; times < 20; times++) {
            x.tell(4);
            x.judge(3);
            trace = 31 * (31 * (31 * trace + 4) + 1) + 6;
            due("p32 wraps", x.trace(), trace);
        }
        x.keep();
        x.tell(0);
        x.back();
        due("p32 is not kept", x.trace(), 31 * trace + 1);
    }

    private static void p33Fault() {
        WideningCracks x = single(10, 0, 1, 1);
        dueFault("p33 cast", x, x.as(0, 4), AS_CAST, 2);
        x.joint();
        x.hold(9, 9);
        x.width(0, 99);
        x.lose(9);
        x.tell(0);
        x.step(-1);
        x.head(9, 9);
        x.back();
        due("p33 calls that name none leave it", x.fault(), 2);
        due("p33 telling leaves it", x.fault(), 2);
        dueFault("p33 came to none", x, x.as(0, 0), 1, 0);
        dueFault("p33 null", x, x.put(0, 0, 0), AS_NULL, 1);
        dueFault("p33 refused", x, x.put(9, 0, 0), UNKNOWN, 0);
        dueFault("p33 size", x, x.core(0, 0, -5), AS_SIZE, 4);
        dueFault("p33 made", x, x.core(0, 0, 1), 1, 0);
        dueFault("p33 index", x, x.copy(0, 0, 0, 0, 2), AS_INDEX, 3);
        dueFault("p33 copied", x, x.copy(0, 0, 0, 0, 1), 1, 0);
        dueFault("p33 index", x, x.widths(0, 0, 0, 2, 0), AS_INDEX, 3);
        dueFault("p33 done", x, x.widths(0, 0, 0, 1, 0), 1, 0);
        dueFault("p33 cast", x, x.cell(0, 0, 1), LOST, 2);
        dueFault("p33 told", x, x.cell(0, 0, 0), 0, 0);
    }

    /** The example of README.md, with the answers that it tells. */
    private static void readme() {
        WideningCracks rock = new WideningCracks();
        int top = rock.joint();
        int middle = rock.joint();
        int bottom = rock.joint();
        due("readme bottom", bottom, 2);
        rock.hold(top, 60);
        rock.hold(bottom, 0);
        rock.crack(top, middle, 0, 2, 1);
        rock.crack(middle, bottom, 1, 2, 1);
        dueFraction("readme head", rock.head(middle, 0), rock.head(middle, 1), 20, 1);
        due("readme flow", rock.flow(1, 0), 80);
        due("readme eats", rock.eats(1), 800);
        due("readme run", rock.run(3), 2);
        due("readme about", rock.about(1, 3), 3);
        rock.core(0, 2, 2);
        rock.put(0, 0, 12);
        rock.put(0, 1, 5);
        due("readme widths", rock.widths(0, 2, 0, 2, 0), 2);
        due("readme open", rock.open(), 5);
        dueFault("readme as", rock, rock.as(0, 4), AS_CAST, 2);
    }

    public static void main(String[] args) {
        readme();
        p01NewObject();
        p02Joint();
        p03Hold();
        p04Free();
        p05Crack();
        p06Widths();
        p07Width();
        p08About();
        p09At();
        p10Head();
        p11Flow();
        p12In();
        p13Work();
        p14Rate();
        p15Step();
        p16Run();
        p17Ways();
        p18Through();
        p19Open();
        p20Eats();
        p21Told();
        p22Keep();
        p23Back();
        p24Core();
        p25Lose();
        p26Put();
        p27Cell();
        p28Copy();
        p29Tell();
        p30Judge();
        p31As();
        p32Trace();
        p33Fault();
        System.out.println(asked + " answers, " + wrong + " not as due");
        if (wrong != 0) {
            System.exit(1);
        }
    }
}
