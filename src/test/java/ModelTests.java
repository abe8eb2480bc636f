import java.math.BigInteger;
import java.util.ArrayDeque;
import java.util.ArrayList;
import java.util.Arrays;
import java.util.HashSet;
import java.util.List;
import java.util.Random;
import java.util.Set;

/** Runs of calls drawn with fixed seeds, each answer against that of a slow model written from the document alone. */
public final class ModelTests {
    private static final int RUNS = 600;
    private static final int CALLS = 512;
    private static final int SHOWN = 20;

    /** A fraction in lowest terms, the lower number above 0. */
    private static final class Ratio {
        static final Ratio ZERO = of(0);
        final BigInteger up;
        final BigInteger low;

        Ratio(BigInteger up, BigInteger low) {
            BigInteger by = up.gcd(low).multiply(BigInteger.valueOf(low.signum()));
            this.up = up.divide(by);
            this.low = low.divide(by);
        }

        static Ratio of(long whole) {
            return new Ratio(BigInteger.valueOf(whole), BigInteger.ONE);
        }

        Ratio plus(Ratio o) {
            return new Ratio(up.multiply(o.low).add(o.up.multiply(low)), low.multiply(o.low));
        }

        Ratio minus(Ratio o) {
            return plus(o.times(of(-1)));
        }

        Ratio times(Ratio o) {
            return new Ratio(up.multiply(o.up), low.multiply(o.low));
        }

        Ratio over(Ratio o) {
            return new Ratio(up.multiply(o.low), low.multiply(o.up));
        }

        long part(int which) {
            return (which == 0 ? up : low).longValueExact();
        }
    }

    private static final class Kept {
        int[] widths;
        int[] stores;
        int steps;
    }

    /** The document, as plainly as can be; a call is its name and its arguments. */
    private static final class Model {
        static final long LOST = Long.MIN_VALUE;
        final List<Integer> held = new ArrayList<>();
        final List<int[]> cracks = new ArrayList<>();
        final Object[] cores = new Object[4];
        final ArrayDeque<Kept> kept = new ArrayDeque<>();
        int rate = 10;
        int steps = 0;
        int trace = 0;
        int fault = 0;

        // of a crack: 0 from, 1 to, 2 kind, 3 width, 4 number, 5 store

        long lets(int[] c) {
            return c[2] == 0 || c[2] == 2 ? c[3] : (long) c[3] * c[3];
        }

        boolean isJoint(long j) {
            return j >= 0 && j < held.size();
        }

        boolean isCrack(long c) {
            return c >= 0 && c < cracks.size();
        }

        boolean isIn(long v, long least, long most) {
            return v >= least && v <= most;
        }

        boolean isDry(int joint) {
            Set<Integer> seen = new HashSet<>(List.of(joint));
            ArrayDeque<Integer> open = new ArrayDeque<>(List.of(joint));
            while (!open.isEmpty()) {
                int j = open.poll();
                if (held.get(j) != null) {
                    return false;
                }
                for (int[] c : cracks) {
                    if (c[3] > 0 && (c[0] == j || c[1] == j)) {
                        int other = c[0] == j ? c[1] : c[0];
                        if (seen.add(other)) {
                            open.add(other);
                        }
                    }
                }
            }
            return true;
        }

        /** Heads by elimination with fractions; null where it is dry. */
        Ratio[] heads() {
            int n = held.size();
            Ratio[][] m = new Ratio[n][n + 1];
            boolean[] dry = new boolean[n];
            for (int j = 0; j < n; j++) {
                Arrays.fill(m[j], Ratio.ZERO);
                dry[j] = isDry(j);
                if (dry[j] || held.get(j) != null) {
                    m[j][j] = Ratio.of(1);
                    m[j][n] = Ratio.of(dry[j] ? 0 : held.get(j));
                    continue;
                }
                for (int[] c : cracks) {
                    if (c[3] > 0 && (c[0] == j || c[1] == j)) {
                        int other = c[0] == j ? c[1] : c[0];
                        m[j][j] = m[j][j].minus(Ratio.of(lets(c)));
                        m[j][other] = m[j][other].plus(Ratio.of(lets(c)));
                    }
                }
            }
            for (int p = 0; p < n; p++) {
                int at = p;
                while (m[at][p].up.signum() == 0) {
                    at++;
                }
                Ratio[] swap = m[at];
                m[at] = m[p];
                m[p] = swap;
                for (int r = 0; r < n; r++) {
                    if (r != p && m[r][p].up.signum() != 0) {
                        Ratio by = m[r][p].over(m[p][p]);
                        for (int k = 0; k <= n; k++) {
                            m[r][k] = m[r][k].minus(by.times(m[p][k]));
                        }
                    }
                }
            }
            Ratio[] heads = new Ratio[n];
            for (int j = 0; j < n; j++) {
                heads[j] = dry[j] ? null : m[j][n].over(m[j][j]);
            }
            return heads;
        }

        Ratio apart(Ratio[] heads, int[] c) {
            return heads[c[0]].minus(heads[c[1]]);
        }

        Ratio flow(Ratio[] heads, int[] c) {
            if (c[3] == 0 || heads[c[0]] == null || heads[c[1]] == null) {
                return Ratio.ZERO;
            }
            return Ratio.of(lets(c)).times(apart(heads, c));
        }

        Ratio in(int joint) {
            Ratio[] heads = heads();
            Ratio sum = Ratio.ZERO;
            for (int[] c : cracks) {
                if (c[0] == joint) {
                    sum = sum.plus(flow(heads, c));
                }
                if (c[1] == joint) {
                    sum = sum.minus(flow(heads, c));
                }
            }
            return sum;
        }

        Ratio work() {
            Ratio[] heads = heads();
            Ratio sum = Ratio.ZERO;
            for (int[] c : cracks) {
                Ratio flow = flow(heads, c);
                if (flow.up.signum() != 0) {
                    sum = sum.plus(flow.times(apart(heads, c)));
                }
            }
            return sum;
        }

        boolean isMeal(int[] c, int step) {
            return c[2] < 3 || step % c[4] == 0;
        }

        long eats(Ratio[] heads, int[] c, int step) {
            Ratio flow = flow(heads, c);
            return isMeal(c, step) ? flow.up.abs().multiply(BigInteger.valueOf(rate)).divide(flow.low).longValueExact() : 0;
        }

        boolean isAtEnd(int[] c) {
            return c[2] == 2 ? c[3] == 0 : c[2] == 4 ? c[3] >= c[4] || c[3] == 12 : c[3] == 12;
        }

        int oneStep() {
            Ratio[] heads = heads();
            steps++;
            int moved = 0;
            for (int[] c : cracks) {
                if (!isMeal(c, steps)) {
                    continue;
                }
                int before = c[3];
                long store = c[5] + eats(heads, c, steps);
                while (store >= 1000 && !isAtEnd(c)) {
                    store -= 1000;
                    c[3] += c[2] == 2 ? -1 : 1;
                }
                c[5] = isAtEnd(c) ? 0 : (int) store;
                moved += c[3] == before ? 0 : 1;
            }
            return moved;
        }

        List<List<Integer>> ways(int t) {
            List<List<Integer>> all = new ArrayList<>();
            int high = -1;
            int low = 101;
            for (Integer h : held) {
                if (h != null) {
                    high = Math.max(high, h);
                    low = Math.min(low, h);
                }
            }
            if (high > low) {
                for (int j = 0; j < held.size(); j++) {
                    if (held.get(j) != null && held.get(j) == high) {
                        goOn(t, low, new ArrayList<>(List.of(j)), new ArrayList<>(), all);
                    }
                }
            }
            return all;
        }

        void goOn(int t, int low, List<Integer> joints, List<Integer> way, List<List<Integer>> all) {
            int last = joints.get(joints.size() - 1);
            if (held.get(last) != null && held.get(last) == low) {
                all.add(new ArrayList<>(way));
            }
            for (int k = 0; k < cracks.size(); k++) {
                int[] c = cracks.get(k);
                if (c[3] < t || c[0] != last && c[1] != last) {
                    continue;
                }
                int next = c[0] == last ? c[1] : c[0];
                if (!joints.contains(next)) {
                    joints.add(next);
                    way.add(k);
                    goOn(t, low, joints, way, all);
                    way.remove(way.size() - 1);
                    joints.remove(joints.size() - 1);
                }
            }
        }

        int run(int t) {
            for (int done = 0; done <= 200; done++) {
                if (!ways(t).isEmpty()) {
                    return done;
                }
                if (done < 200) {
                    oneStep();
                }
            }
            return -9;
        }

        int told(int what) {
            int heldOnes = 0;
            int dry = 0;
            int open = 0;
            int sum = 0;
            for (int j = 0; j < held.size(); j++) {
                heldOnes += held.get(j) == null ? 0 : 1;
                dry += isDry(j) ? 1 : 0;
            }
            for (int[] c : cracks) {
                open += c[3] > 0 ? 1 : 0;
                sum += c[3];
            }
            int[] all = {held.size(), cracks.size(), steps, rate, heldOnes, dry, open, sum};
            return isIn(what, 0, 7) ? all[what] : -2;
        }

        int keep() {
            Kept k = new Kept();
            k.widths = cracks.stream().mapToInt(c -> c[3]).toArray();
            k.stores = cracks.stream().mapToInt(c -> c[5]).toArray();
            k.steps = steps;
            kept.addLast(k);
            if (kept.size() > 8) {
                kept.removeFirst();
            }
            return kept.size();
        }

        int back() {
            if (kept.isEmpty()) {
                return -3;
            }
            Kept k = kept.removeLast();
            for (int c = 0; c < k.widths.length; c++) {
                cracks.get(c)[3] = k.widths[c];
                cracks.get(c)[5] = k.stores[c];
            }
            steps = k.steps;
            return kept.size();
        }

        // Cores are real arrays here, and faults are what the machine throws.

        int laneOf(Object row) {
            return row instanceof byte[] ? 0 : row instanceof short[] ? 1 : row instanceof int[] ? 2 : 3;
        }

        int lengthOf(Object row) {
            return java.lang.reflect.Array.getLength(row);
        }

        Object newRow(int lane, int n) {
            return lane == 0 ? new byte[n] : lane == 1 ? new short[n] : lane == 2 ? new int[n] : (Object) new long[n];
        }

        long get(Object row, int i) {
            return java.lang.reflect.Array.getLong(row, i);
        }

        void set(Object row, int i, long v) {
            if (row instanceof byte[] b) {
                b[i] = (byte) v;
            } else if (row instanceof short[] s) {
                s[i] = (short) v;
            } else if (row instanceof int[] n) {
                n[i] = (int) v;
            } else {
                ((long[]) row)[i] = v;
            }
        }

        long faulted(int f) {
            fault = f;
            return -10 - f;
        }

        long widths(int k, int lane, int i, int n, int c) {
            fault = 0;
            if (!isIn(k, 0, 3) || !isCrack(c)) {
                return -1;
            }
            if (!isIn(lane, 0, 3)) {
                return -2;
            }
            Object row = cores[k];
            if (row != null && laneOf(row) != lane) {
                return faulted(2);
            }
            if (row == null) {
                return faulted(1);
            }
            if (n < 0) {
                return faulted(4);
            }
            if (i < 0 || (long) i + n > lengthOf(row) || (long) c + n > cracks.size()) {
                return faulted(3);
            }
            for (int d = 0; d < n; d++) {
                if (!isIn(get(row, i + d), 0, 12)) {
                    return -2;
                }
            }
            for (int d = 0; d < n; d++) {
                cracks.get(c + d)[3] = (int) get(row, i + d);
                cracks.get(c + d)[5] = 0;
            }
            return n;
        }

        long copy(int k, int i, int other, int j, int n) {
            fault = 0;
            if (!isIn(k, 0, 3) || !isIn(other, 0, 3)) {
                return -1;
            }
            try {
                if (cores[k] == null || cores[other] == null) {
                    throw new NullPointerException();
                }
                System.arraycopy(cores[k], i, cores[other], j, n);
                return n;
            } catch (NullPointerException e) {
                return faulted(1);
            } catch (ArrayStoreException e) {
                return faulted(2);
            } catch (IndexOutOfBoundsException e) {
                return faulted(3);
            }
        }

        int body(int number, int answer) {
            trace = trace * 31 + number;
            return answer;
        }

        int tell(int[] c) {
            int[] first = {0, 2, 3, 2, 4};
            if (first[c[2]] != 0) {
                body(first[c[2]], 0);
            }
            body(1, 0);
            int[] all = {c[3], 10 * c[3], c[3] - 20, 10 * c[3], c[3] + c[4]};
            return all[c[2]];
        }

        int judge(int[] c) {
            return c[2] < 3 ? body(5, 100 + c[2]) : body(6, c[4]);
        }

        int as(int c, int kind) {
            fault = 0;
            if (!isCrack(c)) {
                return -1;
            }
            if (!isIn(kind, 0, 4)) {
                return -2;
            }
            int[] above = {-1, 0, 0, 1, 3};
            for (int k = cracks.get(c)[2]; k >= 0; k = above[k]) {
                if (k == kind) {
                    return 1;
                }
            }
            return (int) faulted(2);
        }

        int crack(int a, int b, int kind, int width, int number) {
            if (!isJoint(a) || !isJoint(b)) {
                return -1;
            }
            if (a == b || !isIn(kind, 0, 4) || !isIn(width, 0, 12) || !isIn(number, 1, 12)) {
                return -2;
            }
            if (cracks.size() == 12) {
                return -4;
            }
            cracks.add(new int[] {a, b, kind, width, number, 0});
            return cracks.size() - 1;
        }

        int at(int joint, int what) {
            if (!isJoint(joint)) {
                return -1;
            }
            Integer h = held.get(joint);
            int open = 0;
            for (int[] c : cracks) {
                open += c[3] > 0 && (c[0] == joint || c[1] == joint) ? 1 : 0;
            }
            int[] all = {h == null ? 0 : 1, h == null ? -9 : h, isDry(joint) ? 1 : 0, open};
            return isIn(what, 0, 3) ? all[what] : -2;
        }

        int width(int c, int w) {
            if (!isCrack(c)) {
                return -1;
            }
            if (!isIn(w, 0, 12)) {
                return -2;
            }
            int was = cracks.get(c)[3];
            cracks.get(c)[3] = w;
            cracks.get(c)[5] = 0;
            return was;
        }

        int about(int c, int what) {
            if (!isCrack(c)) {
                return -1;
            }
            return what == 6 ? (int) lets(cracks.get(c)) : isIn(what, 0, 5) ? cracks.get(c)[what] : -2;
        }

        long cell(int k, int i, int lane) {
            fault = 0;
            if (!isIn(k, 0, 3) || !isIn(lane, 0, 3)) {
                return LOST;
            }
            Object row = cores[k];
            if (row != null && laneOf(row) == lane && isIn(i, 0, lengthOf(row) - 1)) {
                return get(row, i);
            }
            fault = row == null ? 1 : laneOf(row) != lane ? 2 : 3;
            return LOST;
        }

        int put(int k, int i, long v) {
            fault = 0;
            if (!isIn(k, 0, 3)) {
                return -1;
            }
            if (cores[k] == null || !isIn(i, 0, lengthOf(cores[k]) - 1)) {
                return (int) faulted(cores[k] == null ? 1 : 3);
            }
            set(cores[k], i, v);
            return 1;
        }

        int core(int k, int lane, int n) {
            fault = 0;
            if (!isIn(k, 0, 3)) {
                return -1;
            }
            if (!isIn(lane, 0, 3) || n > 24) {
                return -2;
            }
            if (n < 0) {
                return (int) faulted(4);
            }
            cores[k] = newRow(lane, n);
            return 1;
        }

        int lose(int k) {
            if (!isIn(k, 0, 3)) {
                return -1;
            }
            int had = cores[k] == null ? 0 : 1;
            cores[k] = null;
            return had;
        }

        int hold(int joint, int head) {
            if (!isJoint(joint)) {
                return -1;
            }
            if (!isIn(head, 0, 100)) {
                return -2;
            }
            held.set(joint, head);
            return 1;
        }

        int free(int joint) {
            return !isJoint(joint) ? -1 : held.set(joint, null) == null ? 0 : 1;
        }

        int joint() {
            if (held.size() == 6) {
                return -4;
            }
            held.add(null);
            return held.size() - 1;
        }

        int through(int c, int t) {
            if (!isCrack(c)) {
                return -1;
            }
            return !isIn(t, 1, 12) ? -2 : ways(t).stream().anyMatch(way -> way.contains(c)) ? 1 : 0;
        }

        int open() {
            int t = 12;
            while (t > 0 && ways(t).isEmpty()) {
                t--;
            }
            return t;
        }

        int step(int n) {
            int moved = 0;
            for (int d = 0; d < n; d++) {
                moved += oneStep();
            }
            return isIn(n, 0, 50) ? moved : -2;
        }

        int setRate(int r) {
            if (!isIn(r, 1, 100)) {
                return -2;
            }
            int was = rate;
            rate = r;
            return was;
        }
    }

    private static final int NAMES = 33;
    private static int wrong = 0;
    private static long asked = 0;

    private final Random dice;
    private final WideningCracks x = new WideningCracks();
    private final Model m = new Model();
    private final StringBuilder calls = new StringBuilder();
    private final boolean isWild;

    private ModelTests(int seed) {
        dice = new Random(seed);
        isWild = seed % 4 == 0;
    }

    private void due(String call, long got, long want) {
        asked++;
        calls.append(call).append(' ');
        if (got != want) {
            wrong++;
            if (wrong <= SHOWN) {
                System.out.println(calls + "answered " + got + ", due is " + want);
            }
        }
    }

    /** Mostly from .. to; at times just beyond, or far beyond. */
    private int num(int from, int to) {
        int luck = dice.nextInt(isWild ? 12 : 60);
        if (luck == 0) {
            return from - 1;
        }
        if (luck == 1) {
            return to + 1;
        }
        if (luck == 2 && isWild) {
            return dice.nextInt(4) == 0 ? Integer.MIN_VALUE : dice.nextInt(3) == 0 ? Integer.MAX_VALUE : dice.nextInt();
        }
        return from + dice.nextInt(to - from + 1);
    }

    private int aJoint() {
        return num(0, Math.max(0, m.held.size() - 1));
    }

    private int aCrack() {
        return num(0, Math.max(0, m.cracks.size() - 1));
    }

    private int aHead() {
        return dice.nextBoolean() ? num(0, 100) : 25 * dice.nextInt(5);
    }

    private long aValue() {
        int luck = dice.nextInt(8);
        return luck == 0 ? dice.nextLong() : luck == 1 ? dice.nextInt() : luck == 2 ? (dice.nextInt(13) + 65536L * 65536L) : num(0, 12);
    }

    private void grow() {
        int joints = 2 + dice.nextInt(5);
        for (int j = 0; j < joints; j++) {
            due("joint()", x.joint(), m.joint());
        }
        for (int times = dice.nextInt(4); times >= 0; times--) {
            hold();
        }
        for (int times = dice.nextInt(13); times > 0; times--) {
            crack();
        }
        int rate = dice.nextBoolean() ? 10 : 1 + dice.nextInt(100);
        due("rate(" + rate + ")", x.rate(rate), m.setRate(rate));
    }

    private void hold() {
        int j = aJoint();
        int h = aHead();
        due("hold(" + j + ", " + h + ")", x.hold(j, h), m.hold(j, h));
    }

    private void crack() {
        int a = aJoint();
        int b = aJoint();
        int kind = num(0, 4);
        int w = dice.nextInt(4) == 0 ? 12 - dice.nextInt(2) : num(0, 12);
        int n = num(1, 12);
        due("crack(" + a + ", " + b + ", " + kind + ", " + w + ", " + n + ")", x.crack(a, b, kind, w, n), m.crack(a, b, kind, w, n));
    }

    private void lookAtAll() {
        Ratio[] heads = m.heads();
        Ratio work = m.work();
        for (int which = 0; which < 2; which++) {
            for (int j = 0; j < heads.length; j++) {
                due("head(" + j + ", " + which + ")", x.head(j, which), heads[j] == null ? Model.LOST : heads[j].part(which));
                due("in(" + j + ", " + which + ")", x.in(j, which), m.held.get(j) == null ? Model.LOST : m.in(j).part(which));
            }
            for (int c = 0; c < m.cracks.size(); c++) {
                due("flow(" + c + ", " + which + ")", x.flow(c, which), m.flow(heads, m.cracks.get(c)).part(which));
                due("about(" + c + ", " + (3 + 2 * which) + ")", x.about(c, 3 + 2 * which), m.about(c, 3 + 2 * which));
            }
            due("work(" + which + ")", x.work(which), work.part(which));
        }
    }

    private void call() {
        int name = dice.nextInt(NAMES);
        if (name < 13) {
            rockCall(name);
        } else if (name < 22) {
            stepCall(name);
        } else {
            coreCall(name);
        }
    }

    private void rockCall(int name) {
        int j = aJoint();
        int c = aCrack();
        int w = num(0, 12);
        int what = num(0, 6);
        int which = num(0, 1);
        switch (name) {
            case 0 -> due("joint()", x.joint(), m.joint());
            case 1 -> hold();
            case 2 -> due("free(" + j + ")", x.free(j), m.free(j));
            case 3 -> crack();
            case 4 -> widths();
            case 5 -> due("width(" + c + ", " + w + ")", x.width(c, w), m.width(c, w));
            case 6 -> due("about(" + c + ", " + what + ")", x.about(c, what), m.about(c, what));
            case 7 -> due("at(" + j + ", " + what + ")", x.at(j, what), m.at(j, what));
            case 8 -> {
                boolean is = m.isJoint(j) && m.isIn(which, 0, 1) && !m.isDry(j);
                due("head(" + j + ", " + which + ")", x.head(j, which), is ? m.heads()[j].part(which) : Model.LOST);
            }
            case 9 -> {
                boolean is = m.isCrack(c) && m.isIn(which, 0, 1);
                due("flow(" + c + ", " + which + ")", x.flow(c, which), is ? m.flow(m.heads(), m.cracks.get(c)).part(which) : Model.LOST);
            }
            case 10 -> {
                boolean is = m.isJoint(j) && m.isIn(which, 0, 1) && m.held.get(j) != null;
                due("in(" + j + ", " + which + ")", x.in(j, which), is ? m.in(j).part(which) : Model.LOST);
            }
            case 11 -> due("work(" + which + ")", x.work(which), m.isIn(which, 0, 1) ? m.work().part(which) : Model.LOST);
            default -> lookAtAll();
        }
    }

    private void widths() {
        int k = num(0, 3);
        int lane = m.isIn(k, 0, 3) && m.cores[k] != null && dice.nextInt(5) > 0 ? m.laneOf(m.cores[k]) : num(0, 3);
        int i = num(0, 6);
        int n = num(0, 4);
        int c = aCrack();
        due("widths(" + k + ", " + lane + ", " + i + ", " + n + ", " + c + ")", x.widths(k, lane, i, n, c), m.widths(k, lane, i, n, c));
    }

    private void stepCall(int name) {
        int c = aCrack();
        int t = num(1, 12);
        int r = num(1, 100);
        int n = dice.nextInt(6) == 0 ? num(0, 50) : num(0, 4);
        int what = num(0, 7);
        switch (name) {
            case 13 -> due("rate(" + r + ")", x.rate(r), m.setRate(r));
            case 14 -> due("step(" + n + ")", x.step(n), n > 50 ? -2 : m.step(n));
            case 15 -> {
                if (dice.nextInt(12) == 0) {
                    due("run(" + t + ")", x.run(t), m.isIn(t, 1, 12) ? m.run(t) : -2);
                }
            }
            case 16 -> due("ways(" + t + ")", x.ways(t), m.isIn(t, 1, 12) ? m.ways(t).size() : -2);
            case 17 -> due("through(" + c + ", " + t + ")", x.through(c, t), m.through(c, t));
            case 18 -> due("open()", x.open(), m.open());
            case 19 -> due("eats(" + c + ")", x.eats(c), m.isCrack(c) ? m.eats(m.heads(), m.cracks.get(c), m.steps + 1) : Model.LOST);
            case 20 -> due("told(" + what + ")", x.told(what), m.told(what));
            default -> {
                boolean isKeep = dice.nextInt(5) < 3;
                due(isKeep ? "keep()" : "back()", isKeep ? x.keep() : x.back(), isKeep ? m.keep() : m.back());
            }
        }
    }

    private void coreCall(int name) {
        int k = num(0, 3);
        int other = num(0, 3);
        int lane = num(0, 3);
        int i = num(0, 8);
        int j = num(0, 8);
        int n = dice.nextBoolean() ? num(0, 24) : num(0, 8);
        int c = aCrack();
        int kind = num(0, 4);
        long v = aValue();
        switch (name) {
            case 22 -> due("core(" + k + ", " + lane + ", " + n + ")", x.core(k, lane, n), m.core(k, lane, n));
            case 23 -> {
                if (dice.nextInt(3) == 0) {
                    due("lose(" + k + ")", x.lose(k), m.lose(k));
                }
            }
            case 24, 25 -> due("put(" + k + ", " + i + ", " + v + ")", x.put(k, i, v), m.put(k, i, v));
            case 26 -> due("cell(" + k + ", " + i + ", " + lane + ")", x.cell(k, i, lane), m.cell(k, i, lane));
            case 27 -> due("copy(" + k + ", " + i + ", " + other + ", " + j + ", " + n + ")", x.copy(k, i, other, j, n), m.copy(k, i, other, j, n));
            case 28 -> due("tell(" + c + ")", x.tell(c), m.isCrack(c) ? m.tell(m.cracks.get(c)) : -1);
            case 29 -> due("judge(" + c + ")", x.judge(c), m.isCrack(c) ? m.judge(m.cracks.get(c)) : -1);
            case 30 -> due("as(" + c + ", " + kind + ")", x.as(c, kind), m.as(c, kind));
            case 31 -> due("trace()", x.trace(), m.trace);
            default -> due("fault()", x.fault(), m.fault);
        }
    }

    private void play() {
        if (dice.nextInt(10) > 0) {
            grow();
        }
        for (int done = 0; done < CALLS; done++) {
            call();
        }
    }

    public static void main(String[] args) {
        int runs = args.length > 0 ? Integer.parseInt(args[0]) : RUNS;
        for (int seed = 0; seed < runs; seed++) {
            new ModelTests(seed).play();
        }
        System.out.println(asked + " answers, " + wrong + " not as due");
        if (wrong != 0) {
            System.exit(1);
        }
    }
}
