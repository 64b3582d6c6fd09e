import java.math.BigInteger;
import java.util.ArrayList;
import java.util.List;
import java.util.Random;

/**
 * Runs of calls drawn by fixed seeds, each answer held against a plain model in fractions of
 * BigInteger that solves by Gauss and takes slopes by carrying derivatives along.
 */
public final class ModelTest {
    private static final int RUNS = 900;
    private static final int CALLS = 120;
    private static int wrong = 0;
    private static long compared = 0;
    private static long beyondLong = 0;

    public static void main(String[] args) {
        for (int seed = 1; seed <= RUNS && wrong < 20; seed++) {
            new Run(seed).go();
        }
        for (int seed = 1; seed <= 90 && wrong < 20; seed++) {
            new Run(100000 + seed, 3).goSlowly();
        }
        if (beyondLong == 0) {
            wrong++;
            System.out.println("no amount beyond a long was met");
        }
        System.out.println(compared + " answers compared, " + wrong + " wrong, " + beyondLong
                + " loads beyond a long");
        if (wrong != 0) {
            System.exit(1);
        }
    }

    /** One object and its model, told the same. */
    private static final class Run {
        final int seed;
        final Random random;
        final int kinds;
        final ShareSolve it;
        final Model model;
        final List<String> told = new ArrayList<>();

        Run(int seed) {
            this(seed, seed % 8 == 0 ? seed / 8 % 7 - 2 : 1 + seed % 3);
        }

        Run(int seed, int kinds) {
            this.seed = seed;
            this.kinds = kinds;
            random = new Random(seed);
            it = new ShareSolve(kinds);
            model = new Model(kinds);
            told.add("new ShareSolve(" + kinds + ")");
        }

        int pick(int below) {
            return random.nextInt(25) == 0 ? random.nextInt(7) - 2 : random.nextInt(below);
        }

        void check(String call, long got, long want) {
            compared++;
            told.add(call + " -> " + want);
            if (got != want) {
                wrong++;
                System.out.println("seed " + seed + ": " + call + " answered " + got
                        + ", due is " + want);
                if (wrong == 1) {
                    told.forEach(System.out::println);
                }
            }
        }

        void check(String call, boolean got, boolean want) {
            check(call, got ? 1 : 0, want ? 1 : 0);
        }

        void go() {
            if (random.nextInt(4) != 0) {
                setUp();
            }
            for (int call = 0; call < CALLS; call++) {
                int what = random.nextInt(100);
                if (what < 50) {
                    tell(what);
                } else {
                    ask(what);
                }
            }
            askAll();
        }

        /** Lines from which little gets away, with the awkwardest fractions. */
        void goSlowly() {
            if (seed % 3 == 0) {
                setUpSlow();
            } else if (seed % 3 == 1) {
                setUpNarrow();
            } else {
                setUpGreat();
            }
            solve();
            askAll();
            for (int more = 0; more < 6; more++) {
                share(random.nextInt(3), random.nextInt(3), random.nextInt(2), 1, 7 + random.nextInt(6));
                feed(random.nextInt(3), random.nextInt(3), random.nextInt(1000001));
                ask(90);
                ask(70);
            }
            solve();
            askAll();
        }

        void setUp() {
            int machines = 1 + random.nextInt(3);
            int ports = 1 + random.nextInt(3);
            for (int m = 0; m < machines; m++) {
                machine(1 + random.nextInt(3));
            }
            for (int p = 0; p < ports; p++) {
                port();
            }
            for (int m = 0; m < machines; m++) {
                for (int o = 0; o < 3; o++) {
                    joinOut(m, o, random.nextInt(machines + ports + 1) - ports - 1);
                }
            }
            for (int n = 0; n < 12; n++) {
                tell(20 + random.nextInt(30));
            }
        }

        void setUpSlow() {
            for (int m = 0; m < 3; m++) {
                machine(3);
                port();
            }
            int[] awkward = {7, 9, 10, 11, 12};
            for (int m = 0; m < 3; m++) {
                joinOut(m, 0, 0);
                joinOut(m, 1, random.nextInt(4) == 0 ? -2 : random.nextInt(3));
                joinOut(m, 2, m == 2 ? -2 - random.nextInt(3) : m + 1);
                for (int k = 0; k < 3; k++) {
                    long below = awkward[random.nextInt(5)];
                    share(m, k, 0, below - 1 - random.nextInt(2), below);
                    share(m, k, 1, 1, awkward[random.nextInt(5)]);
                    crush(m, k, (k + 1 + random.nextInt(2)) % 3, 1, 11 + random.nextInt(2));
                    feed(m, k, 1000000 - random.nextInt(3));
                }
            }
        }

        /** One way through all machines as kind 0, then 1, then 2; all else comes back to machine 0. */
        void setUpNarrow() {
            for (int m = 0; m < 3; m++) {
                machine(3);
                port();
            }
            for (int m = 0; m < 3; m++) {
                joinOut(m, 0, 0);
                joinOut(m, 1, 0);
                joinOut(m, 2, m == 2 ? 0 : m + 1);
                for (int k = 0; k < 3; k++) {
                    share(m, k, 0, 10, 11);
                    share(m, k, 1, 1, 12);
                    feed(m, k, 1000000 - random.nextInt(3));
                }
                crush(m, 0, 1, m == 2 ? 1 : 0, 12);
                crush(m, 1, m == 2 ? 2 : 0, m == 2 ? 1 : 11, 12);
                crush(m, 2, random.nextInt(2), 11, 12);
            }
            joinOut(2, 2, -2 - random.nextInt(3));
            share(2, 0, 1, 1, 11);
            share(2, 1, 1, 1, 11);
            if (random.nextInt(2) == 0) {
                share(random.nextInt(3), 2, 0, 6, 7);
            }
        }

        /** Denominators that have least in common, so that the numbers inside grow greatest. */
        void setUpGreat() {
            int[][] belows = {{11, 7}, {9, 10}, {11, 7}};
            for (int m = 0; m < 3; m++) {
                machine(3);
                port();
            }
            for (int m = 0; m < 3; m++) {
                joinOut(m, 0, (m + 1) % 3);
                joinOut(m, 1, random.nextInt(3));
                joinOut(m, 2, -2 - random.nextInt(3));
                for (int k = 0; k < 3; k++) {
                    share(m, k, 0, 1, belows[k][0]);
                    share(m, k, 1, 1, belows[k][1]);
                    crush(m, k, k == 1 ? 0 : 1, k == 1 ? 5 : 7, 12);
                    feed(m, k, 1000000 - random.nextInt(2));
                }
            }
        }

        void tell(int what) {
            if (what < 2) {
                machine(pick(4));
            } else if (what < 3) {
                port();
            } else if (what < 10) {
                joinOut(pick(3), pick(3), random.nextInt(9) - 5);
            } else if (what < 28) {
                long below = 1 + random.nextInt(random.nextInt(9) == 0 ? 14 : 12);
                share(pick(3), pick(3), pick(3), pick((int) below + 1), below);
            } else if (what < 38) {
                long below = 1 + random.nextInt(random.nextInt(9) == 0 ? 14 : 12);
                crush(pick(3), pick(3), pick(3), pick((int) below + 1), below);
            } else {
                long[] grams = {0, 1, 1000000, 1000001, -1, random.nextInt(1000001)};
                feed(pick(3), pick(3), grams[random.nextInt(12) % 6 | random.nextInt(2)]);
            }
        }

        void ask(int what) {
            if (what < 58) {
                solve();
            } else if (what < 64) {
                int m = pick(3), k = pick(3), o = pick(2);
                long below = 1 + random.nextInt(12), above = pick((int) below + 1);
                check("change(" + m + ", " + k + ", " + o + ", " + above + ", " + below + ")",
                        it.change(m, k, o, above, below), model.change(m, k, o, above, below));
            } else if (what < 72) {
                int m = pick(3), k = pick(3);
                long[] some = {0, 1, 1000, 1000000000, 1000000001, -1, random.nextInt(3000000)};
                long grams = some[random.nextInt(7)];
                check("find(" + m + ", " + k + ", " + grams + ")",
                        it.find(m, k, grams), model.find(m, k, grams));
            } else if (what < 76) {
                int m = pick(3);
                long low = random.nextInt(50) == 0 ? -1 : random.nextInt(1000000);
                long high = random.nextInt(9) == 0 ? 1000000000 + random.nextInt(2) : random.nextInt(3000000);
                check("span(" + m + ", " + low + ", " + high + ")",
                        it.span(m, low, high), model.span(m, low, high));
                askOver();
            } else if (what < 82) {
                int p = pick(3), k = pick(3), part = pick(7);
                check("out(" + p + ", " + k + ", " + part + ")", it.out(p, k, part), model.out(p, k, part));
                int m = pick(3);
                check("load(" + m + ", " + part + ")", it.load(m, part), model.load(m, part));
            } else if (what < 87) {
                int p = pick(3), k = pick(3), part = pick(7);
                check("purity(" + p + ", " + k + ", " + part + ")",
                        it.purity(p, k, part), model.purity(p, k, part));
            } else if (what < 96) {
                int m = pick(3), k = pick(3), o = pick(2), p = pick(3), part = pick(7);
                check("slope(" + m + ", " + k + ", " + o + ", " + p + ", " + part + ")",
                        it.slope(m, k, o, p, part), model.slope(m, k, o, p, part));
            } else {
                askOver();
            }
            check("kept()", it.kept(), model.kept());
        }

        void askOver() {
            for (int k = -1; k <= 3; k++) {
                check("over(" + k + ")", it.over(k), model.over(k));
            }
        }

        void askAll() {
            for (int a = 0; a < 3; a++) {
                for (int part = 0; part <= 6; part++) {
                    check("load(" + a + ", " + part + ")", it.load(a, part), model.load(a, part));
                    for (int k = 0; k < 3; k++) {
                        check("out(" + a + ", " + k + ", " + part + ")", it.out(a, k, part), model.out(a, k, part));
                        check("purity(" + a + ", " + k + ", " + part + ")",
                                it.purity(a, k, part), model.purity(a, k, part));
                    }
                }
            }
            for (int n = 0; n < 3; n++) {
                int m = random.nextInt(3), k = random.nextInt(3), o = random.nextInt(2), p = random.nextInt(3);
                for (int part = 0; part <= 6; part++) {
                    check("slope(" + m + ", " + k + ", " + o + ", " + p + ", " + part + ")",
                            it.slope(m, k, o, p, part), model.slope(m, k, o, p, part));
                }
            }
            askOver();
            check("kept()", it.kept(), model.kept());
        }

        void machine(int outs) {
            check("machine(" + outs + ")", it.machine(outs), model.machine(outs));
        }

        void port() {
            check("port()", it.port(), model.port());
        }

        void joinOut(int m, int o, int to) {
            check("joinOut(" + m + ", " + o + ", " + to + ")", it.joinOut(m, o, to), model.joinOut(m, o, to));
        }

        void share(int m, int k, int o, long above, long below) {
            check("share(" + m + ", " + k + ", " + o + ", " + above + ", " + below + ")",
                    it.share(m, k, o, above, below), model.share(m, k, o, above, below));
        }

        void crush(int m, int from, int to, long above, long below) {
            check("crush(" + m + ", " + from + ", " + to + ", " + above + ", " + below + ")",
                    it.crush(m, from, to, above, below), model.crush(m, from, to, above, below));
        }

        void feed(int m, int k, long grams) {
            check("feed(" + m + ", " + k + ", " + grams + ")", it.feed(m, k, grams), model.feed(m, k, grams));
        }

        void solve() {
            check("solve()", it.solve(), model.solve());
        }
    }

    private static final class Model {
        final int kinds;
        int machines, ports;
        final int[] outs = new int[3];
        final int[][] join = {{-1, -1, -1}, {-1, -1, -1}, {-1, -1, -1}};
        final Fraction[][][] share = new Fraction[3][3][3];
        final Fraction[][] crushed = new Fraction[3][3];
        final int[][] becomes = new int[3][3];
        final long[][] feed = new long[3][3];
        final long[][] spans = new long[3][];
        Fraction[][] solvedOut;
        Fraction[] solvedLoad;
        boolean kept;

        Model(int kinds) {
            this.kinds = kinds < 1 || kinds > 3 ? 1 : kinds;
            for (int m = 0; m < 3; m++) {
                for (int k = 0; k < 3; k++) {
                    crushed[m][k] = Fraction.ZERO;
                    for (int o = 0; o < 3; o++) {
                        share[m][k][o] = Fraction.ZERO;
                    }
                }
            }
        }

        boolean has(int m, int k) {
            return m >= 0 && m < machines && k >= 0 && k < kinds;
        }

        int machine(int n) {
            if (machines == 3 || n < 1 || n > 3) {
                return -1;
            }
            kept = false;
            outs[machines] = n;
            return machines++;
        }

        int port() {
            if (ports == 3) {
                return -1;
            }
            kept = false;
            return ports++;
        }

        boolean joinOut(int m, int o, int to) {
            if (!has(m, 0) || o < 0 || o >= outs[m] || to >= machines || to < -1 - ports) {
                return false;
            }
            join[m][o] = to;
            kept = false;
            return true;
        }

        static boolean isShare(long above, long below) {
            return below >= 1 && below <= 12 && above >= 0 && above <= below;
        }

        boolean share(int m, int k, int o, long above, long below) {
            if (!has(m, k) || o < 0 || o >= outs[m] - 1 || !isShare(above, below)) {
                return false;
            }
            Fraction before = share[m][k][o];
            share[m][k][o] = Fraction.of(above, below);
            if (rest(m, k).sign() < 0) {
                share[m][k][o] = before;
                return false;
            }
            kept = false;
            return true;
        }

        Fraction rest(int m, int k) {
            Fraction rest = Fraction.of(1, 1);
            for (int o = 0; o < outs[m] - 1; o++) {
                rest = rest.minus(share[m][k][o]);
            }
            return rest;
        }

        Fraction shareOf(int m, int k, int o) {
            return o == outs[m] - 1 ? rest(m, k) : share[m][k][o];
        }

        boolean crush(int m, int from, int to, long above, long below) {
            if (!has(m, from) || !has(m, to) || from == to || !isShare(above, below)) {
                return false;
            }
            crushed[m][from] = Fraction.of(above, below);
            becomes[m][from] = to;
            kept = false;
            return true;
        }

        boolean feed(int m, int k, long grams) {
            if (!has(m, k) || grams < 0 || grams > 1000000) {
                return false;
            }
            feed[m][k] = grams;
            kept = false;
            return true;
        }

        /** How much of kind from in a machine is kind to after crushing. */
        Fraction turn(int m, int from, int to) {
            Fraction turn = from == to ? Fraction.of(1, 1).minus(crushed[m][from]) : Fraction.ZERO;
            return from != to && becomes[m][from] == to ? turn.plus(crushed[m][from]) : turn;
        }

        boolean away(int m, int k, boolean[][] seen) {
            if (seen[m][k]) {
                return false;
            }
            seen[m][k] = true;
            for (int t = 0; t < kinds; t++) {
                for (int o = 0; o < outs[m]; o++) {
                    if (turn(m, k, t).sign() > 0 && shareOf(m, t, o).sign() > 0
                            && (join[m][o] < 0 || away(join[m][o], t, seen))) {
                        return true;
                    }
                }
            }
            return false;
        }

        int stuck() {
            for (int m = 0; m < machines; m++) {
                for (int k = 0; k < kinds; k++) {
                    if (!away(m, k, new boolean[3][3])) {
                        return m;
                    }
                }
            }
            return -1;
        }

        int solve() {
            int stuck = stuck();
            if (stuck >= 0) {
                solvedOut = null;
                solvedLoad = null;
                kept = false;
                return 1 + stuck;
            }
            take(amounts(-1, -1, -1));
            return 0;
        }

        void take(Dual[] x) {
            kept = true;
            solvedLoad = new Fraction[machines];
            for (int m = 0; m < machines; m++) {
                solvedLoad[m] = Fraction.ZERO;
                for (int k = 0; k < kinds; k++) {
                    solvedLoad[m] = solvedLoad[m].plus(x[m * kinds + k].value);
                }
                if (solvedLoad[m].part(0).bitLength() > 63) {
                    beyondLong++;
                }
            }
            solvedOut = new Fraction[ports][kinds];
            for (int p = 0; p < ports; p++) {
                for (int k = 0; k < kinds; k++) {
                    solvedOut[p][k] = x[(machines + p) * kinds + k].value;
                }
            }
        }

        /** What comes to each machine, then to each port, with derivatives by one share. */
        Dual[] amounts(int byMachine, int byKind, int byOut) {
            int n = (machines + ports) * kinds;
            Dual[][] rows = new Dual[n][n + 1];
            for (int r = 0; r < n; r++) {
                for (int c = 0; c <= n; c++) {
                    rows[r][c] = Dual.of(r == c ? 1 : 0);
                }
            }
            for (int m = 0; m < machines; m++) {
                for (int k = 0; k < kinds; k++) {
                    rows[m * kinds + k][n] = Dual.of(feed[m][k]);
                    for (int o = 0; o < outs[m]; o++) {
                        if (join[m][o] == -1) {
                            continue;
                        }
                        int node = join[m][o] >= 0 ? join[m][o] : machines - 2 - join[m][o];
                        boolean by = m == byMachine && k == byKind;
                        int grows = by && o == byOut ? 1 : by && o == outs[m] - 1 ? -1 : 0;
                        Dual part = new Dual(shareOf(m, k, o), Fraction.of(grows, 1));
                        for (int from = 0; from < kinds; from++) {
                            Dual goes = part.times(new Dual(turn(m, from, k), Fraction.ZERO));
                            int r = node * kinds + k, c = m * kinds + from;
                            rows[r][c] = rows[r][c].minus(goes);
                        }
                    }
                }
            }
            return gauss(rows, n);
        }

        static Dual[] gauss(Dual[][] rows, int n) {
            for (int c = 0; c < n; c++) {
                int pivot = c;
                while (rows[pivot][c].value.sign() == 0) {
                    pivot++;
                }
                Dual[] swap = rows[c];
                rows[c] = rows[pivot];
                rows[pivot] = swap;
                for (int r = 0; r < n; r++) {
                    if (r != c && !rows[r][c].isZero()) {
                        Dual factor = rows[r][c].over(rows[c][c]);
                        for (int at = c; at <= n; at++) {
                            rows[r][at] = rows[r][at].minus(factor.times(rows[c][at]));
                        }
                    }
                }
            }
            Dual[] x = new Dual[n];
            for (int r = 0; r < n; r++) {
                x[r] = rows[r][n].over(rows[r][r]);
            }
            return x;
        }

        static boolean isPart(int part) {
            return part >= 0 && part <= 6;
        }

        long out(int p, int k, int part) {
            if (solvedOut == null || p < 0 || p >= solvedOut.length || k < 0 || k >= kinds || !isPart(part)) {
                return -1;
            }
            return solvedOut[p][k].part(part).longValue();
        }

        long load(int m, int part) {
            if (solvedLoad == null || m < 0 || m >= solvedLoad.length || !isPart(part)) {
                return -1;
            }
            return solvedLoad[m].part(part).longValue();
        }

        boolean span(int m, long low, long high) {
            if (!has(m, 0) || low < 0 || high > 1000000000 || low > high) {
                return false;
            }
            spans[m] = new long[] {low, high};
            return true;
        }

        int over(int k) {
            List<Integer> found = new ArrayList<>();
            for (int m = 0; solvedLoad != null && m < solvedLoad.length; m++) {
                if (spans[m] != null && (solvedLoad[m].minus(Fraction.of(spans[m][0], 1)).sign() < 0
                        || solvedLoad[m].minus(Fraction.of(spans[m][1], 1)).sign() > 0)) {
                    found.add(m);
                }
            }
            return k >= 0 && k < found.size() ? found.get(k) : -1;
        }

        long slope(int m, int k, int o, int p, int part) {
            if (!has(m, k) || o < 0 || o >= outs[m] - 1 || p < 0 || p >= ports || !isPart(part)
                    || stuck() >= 0) {
                return -1;
            }
            Dual[] x = amounts(m, k, o);
            Fraction slope = Fraction.ZERO;
            for (int kind = 0; kind < kinds; kind++) {
                slope = slope.plus(x[(machines + p) * kinds + kind].slope);
            }
            return slope.part(part).longValue();
        }

        long purity(int p, int k, int part) {
            if (out(p, k, part) == -1 && (solvedOut == null || p < 0 || p >= solvedOut.length
                    || k < 0 || k >= kinds || !isPart(part))) {
                return -1;
            }
            Fraction all = Fraction.ZERO;
            for (int kind = 0; kind < kinds; kind++) {
                all = all.plus(solvedOut[p][kind]);
            }
            return all.sign() == 0 ? -1 : solvedOut[p][k].over(all).part(part).longValue();
        }

        boolean change(int m, int k, int o, long above, long below) {
            if (!share(m, k, o, above, below)) {
                return false;
            }
            solve();
            return true;
        }

        int find(int m, int k, long grams) {
            if (!has(m, k) || outs[m] < 2 || ports == 0 || grams < 0 || grams > 1000000000) {
                return -1;
            }
            Fraction before = share[m][k][0];
            for (int t = 0; t <= 12; t++) {
                share[m][k][0] = Fraction.of(t, 12);
                if (rest(m, k).sign() >= 0 && stuck() < 0) {
                    Dual[] x = amounts(-1, -1, -1);
                    if (x[machines * kinds + k].value.minus(Fraction.of(grams, 1)).sign() >= 0) {
                        take(x);
                        return t;
                    }
                }
            }
            share[m][k][0] = before;
            return -1;
        }

        boolean kept() {
            return kept;
        }
    }

    /** A number and its derivative. */
    private static final class Dual {
        final Fraction value, slope;

        Dual(Fraction value, Fraction slope) {
            this.value = value;
            this.slope = slope;
        }

        static Dual of(long value) {
            return new Dual(Fraction.of(value, 1), Fraction.ZERO);
        }

        boolean isZero() {
            return value.sign() == 0 && slope.sign() == 0;
        }

        Dual minus(Dual other) {
            return new Dual(value.minus(other.value), slope.minus(other.slope));
        }

        Dual times(Dual other) {
            return new Dual(value.times(other.value),
                    value.times(other.slope).plus(slope.times(other.value)));
        }

        Dual over(Dual other) {
            Fraction quotient = value.over(other.value);
            return new Dual(quotient, slope.minus(quotient.times(other.slope)).over(other.value));
        }
    }

    private static final class Fraction {
        static final Fraction ZERO = of(0, 1);
        static final BigInteger GROUP = BigInteger.valueOf(1000000000);
        final BigInteger above, below;

        Fraction(BigInteger above, BigInteger below) {
            BigInteger common = above.gcd(below);
            if (below.signum() < 0) {
                common = common.negate();
            }
            this.above = above.divide(common);
            this.below = below.divide(common);
        }

        static Fraction of(long above, long below) {
            return new Fraction(BigInteger.valueOf(above), BigInteger.valueOf(below));
        }

        int sign() {
            return above.signum();
        }

        Fraction plus(Fraction o) {
            return new Fraction(above.multiply(o.below).add(o.above.multiply(below)), below.multiply(o.below));
        }

        Fraction minus(Fraction o) {
            return new Fraction(above.multiply(o.below).subtract(o.above.multiply(below)),
                    below.multiply(o.below));
        }

        Fraction times(Fraction o) {
            if (above.signum() == 0 || o.above.signum() == 0) {
                return ZERO == null ? of(0, 1) : ZERO;
            }
            return new Fraction(above.multiply(o.above), below.multiply(o.below));
        }

        Fraction over(Fraction o) {
            return new Fraction(above.multiply(o.below), below.multiply(o.above));
        }

        BigInteger part(int part) {
            BigInteger rest = above.mod(below);
            BigInteger whole = above.subtract(rest).divide(below);
            for (int group = 0; group < part; group++) {
                BigInteger[] both = rest.multiply(GROUP).divideAndRemainder(below);
                whole = both[0];
                rest = both[1];
            }
            return whole;
        }
    }
}
