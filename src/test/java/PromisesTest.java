import java.lang.reflect.Constructor;
import java.lang.reflect.Field;
import java.lang.reflect.Method;
import java.lang.reflect.Modifier;
import java.util.Set;
import java.util.TreeSet;

/** The promises of the document one by one: ordinary inputs, edges and wrong inputs. */
public final class PromisesTest {
    private static final int NONE = ShareSolve.NONE;
    private static final int[] ODD_INTS = {Integer.MIN_VALUE, -7, 3, 4, 100, Integer.MAX_VALUE};
    private static final long[] ODD_LONGS = {Long.MIN_VALUE, -1, 1L << 32, (1L << 32) + 1, Long.MAX_VALUE};
    private static int wrong = 0;
    private static int promise = 0;

    public static void main(String[] args) {
        face();
        newObject();
        machine();
        port();
        joinOut();
        share();
        crush();
        feed();
        solve();
        out();
        load();
        span();
        over();
        slope();
        slopeAsItIsNow();
        purity();
        change();
        find();
        findNone();
        kept();
        solvedStays();
        parts();
        oddArguments();
        System.out.println(wrong == 0 ? "all promises hold" : wrong + " answers are not as due");
        if (wrong != 0) {
            System.exit(1);
        }
    }

    private static void due(String what, long want, long got) {
        if (got != want) {
            wrong++;
            System.out.println("promise " + promise + ": " + what + " is " + got + ", due is " + want);
        }
    }

    private static void yes(String what, boolean got) {
        due(what, 1, got ? 1 : 0);
    }

    private static void no(String what, boolean got) {
        due(what, 0, got ? 1 : 0);
    }

    /** One machine with some outs and three ports, out n joined to port n. */
    private static ShareSolve fan(int kinds, int outs) {
        ShareSolve x = new ShareSolve(kinds);
        x.machine(outs);
        for (int n = 0; n < 3; n++) {
            x.port();
        }
        for (int n = 0; n < outs; n++) {
            x.joinOut(0, n, -2 - n);
        }
        return x;
    }

    /** One machine: out 0 comes back, out 1 goes to port 0, out 2, the last, is lost. */
    private static ShareSolve loop() {
        ShareSolve x = new ShareSolve(1);
        x.machine(3);
        x.port();
        x.joinOut(0, 0, 0);
        x.joinOut(0, 1, -2);
        return x;
    }

    private static void face() {
        promise = 0;
        Set<String> seen = new TreeSet<>();
        for (Method m : ShareSolve.class.getDeclaredMethods()) {
            if (!Modifier.isPrivate(m.getModifiers())) {
                seen.add(m.getReturnType() + " " + m.getName() + " " + m.getParameterCount());
            }
        }
        Set<String> want = Set.of("int machine 1", "int port 0", "boolean joinOut 3", "boolean share 5",
                "boolean crush 5", "boolean feed 3", "int solve 0", "long out 3", "long load 2",
                "boolean span 3", "int over 1", "long slope 5", "long purity 3", "boolean change 5",
                "int find 3", "boolean kept 0");
        yes("the methods " + seen, seen.equals(want));
        for (Field f : ShareSolve.class.getDeclaredFields()) {
            yes("field " + f.getName(), Modifier.isPrivate(f.getModifiers()) || f.getName().equals("NONE"));
        }
        for (Constructor<?> c : ShareSolve.class.getDeclaredConstructors()) {
            due("constructor's parameters", 1, c.getParameterCount());
        }
        yes("final", Modifier.isFinal(ShareSolve.class.getModifiers()));
        due("NONE", -1, ShareSolve.NONE);
    }

    private static void newObject() {
        promise = 1;
        for (int kinds = -1; kinds <= 5; kinds++) {
            ShareSolve x = new ShareSolve(kinds);
            no("kept", x.kept());
            due("load", NONE, x.load(0, 0));
            due("out", NONE, x.out(0, 0, 0));
            no("feed without machines", x.feed(0, 0, 1));
            due("first machine", 0, x.machine(1));
            int many = kinds >= 1 && kinds <= 3 ? kinds : 1;
            for (int kind = 0; kind < 5; kind++) {
                due("kind " + kind + " of " + kinds, kind < many ? 1 : 0, x.feed(0, kind, 1) ? 1 : 0);
            }
            due("first port", 0, x.port());
            due("load not solved", NONE, x.load(0, 0));
            due("out not solved", NONE, x.out(0, 0, 0));
            due("purity not solved", NONE, x.purity(0, 0, 0));
            x.span(0, 5, 5);
            due("over not solved", NONE, x.over(0));
        }
    }

    private static void machine() {
        promise = 2;
        ShareSolve x = new ShareSolve(2);
        due("0 outs", NONE, x.machine(0));
        due("-1 outs", NONE, x.machine(-1));
        due("4 outs", NONE, x.machine(4));
        due("1 out", 0, x.machine(1));
        due("3 outs", 1, x.machine(3));
        due("4 outs", NONE, x.machine(4));
        due("2 outs", 2, x.machine(2));
        due("a fourth", NONE, x.machine(2));
        yes("out 0 of 1", x.joinOut(0, 0, -1));
        no("out 1 of 1", x.joinOut(0, 1, -1));
        yes("out 2 of 3", x.joinOut(1, 2, -1));
        no("out 3 of 3", x.joinOut(1, 3, -1));
        yes("out 1 of 2", x.joinOut(2, 1, -1));
        no("out 2 of 2", x.joinOut(2, 2, -1));
    }

    private static void port() {
        promise = 3;
        ShareSolve x = new ShareSolve(1);
        for (int n = 0; n < 3; n++) {
            due("port", n, x.port());
        }
        due("a fourth", NONE, x.port());
        due("solve", 0, x.solve());
        due("nothing comes", 0, x.out(2, 0, 0));
        due("none such", NONE, x.out(3, 0, 0));
    }

    private static void joinOut() {
        promise = 4;
        ShareSolve x = new ShareSolve(1);
        x.machine(1);
        x.feed(0, 0, 70);
        x.solve();
        due("at first it is gone", 70, x.load(0, 0));
        no("no port yet", x.joinOut(0, 0, -2));
        no("no machine 1", x.joinOut(0, 0, 1));
        no("no machine 1 to join", x.joinOut(1, 0, -1));
        no("out -1", x.joinOut(0, -1, -1));
        no("machine -1", x.joinOut(-1, 0, -1));
        x.port();
        x.port();
        yes("port 1", x.joinOut(0, 0, -3));
        no("port 2", x.joinOut(0, 0, -4));
        x.solve();
        due("port 0", 0, x.out(0, 0, 0));
        due("port 1", 70, x.out(1, 0, 0));
        yes("port 0", x.joinOut(0, 0, -2));
        x.solve();
        due("port 0 now", 70, x.out(0, 0, 0));
        due("port 1 now", 0, x.out(1, 0, 0));
        x.machine(1);
        yes("machine 1", x.joinOut(0, 0, 1));
        yes("and on to port 1", x.joinOut(1, 0, -3));
        x.solve();
        due("load of machine 1", 70, x.load(1, 0));
        due("port 1 by machine 1", 70, x.out(1, 0, 0));
        yes("nothing", x.joinOut(1, 0, -1));
        x.solve();
        due("gone", 0, x.out(1, 0, 0));
        due("still through machine 1", 70, x.load(1, 0));
    }

    private static void share() {
        promise = 5;
        ShareSolve x = fan(2, 3);
        x.feed(0, 0, 1200);
        x.feed(0, 1, 1200);
        x.solve();
        due("0 at first, the last has the rest", 1200, x.out(2, 0, 0));
        yes("5/12", x.share(0, 0, 0, 5, 12));
        yes("1/3", x.share(0, 0, 1, 1, 3));
        x.solve();
        due("out 0", 500, x.out(0, 0, 0));
        due("out 1", 400, x.out(1, 0, 0));
        due("the rest", 300, x.out(2, 0, 0));
        due("the other kind", 1200, x.out(2, 1, 0));
        no("last", x.share(0, 0, 2, 1, 12));
        no("out 3", x.share(0, 0, 3, 1, 12));
        no("out -1", x.share(0, 0, -1, 1, 12));
        no("kind 2", x.share(0, 2, 0, 1, 12));
        no("kind -1", x.share(0, -1, 0, 1, 12));
        no("machine 1", x.share(1, 0, 0, 1, 12));
        no("0/0", x.share(0, 0, 0, 0, 0));
        no("0/-1", x.share(0, 0, 0, 0, -1));
        no("-1/12", x.share(0, 0, 0, -1, 12));
        no("1/13", x.share(0, 0, 0, 1, 13));
        no("4/3", x.share(0, 0, 0, 4, 3));
        no("8/11 + 1/3 > 1", x.share(0, 0, 0, 8, 11));
        x.solve();
        due("what was refused changes nothing", 500, x.out(0, 0, 0));
        yes("2/3 + 1/3 = 1", x.share(0, 0, 0, 2, 3));
        x.solve();
        due("all of it", 800, x.out(0, 0, 0));
        due("no rest", 0, x.out(2, 0, 0));
        no("2/3 + 4/11 > 1", x.share(0, 0, 1, 4, 11));
        yes("0/7", x.share(0, 0, 0, 0, 7));
        yes("12/12", x.share(0, 0, 1, 12, 12));
        ShareSolve one = fan(1, 1);
        no("the only out is the last", one.share(0, 0, 0, 0, 1));
    }

    private static void crush() {
        promise = 6;
        ShareSolve x = fan(3, 1);
        x.feed(0, 0, 100);
        x.feed(0, 1, 60);
        yes("half of 0 becomes 1", x.crush(0, 0, 1, 1, 2));
        yes("a third of 1 becomes 0", x.crush(0, 1, 0, 1, 3));
        x.solve();
        due("both at once, kind 0", 70, x.out(0, 0, 0));
        due("both at once, kind 1", 90, x.out(0, 1, 0));
        due("the load is what comes in", 160, x.load(0, 0));
        yes("a quarter of 0 becomes 2 in its stead", x.crush(0, 0, 2, 1, 4));
        x.solve();
        due("kind 0", 95, x.out(0, 0, 0));
        due("kind 1", 40, x.out(0, 1, 0));
        due("kind 2", 25, x.out(0, 2, 0));
        no("the same", x.crush(0, 1, 1, 1, 2));
        no("from 3", x.crush(0, 3, 1, 1, 2));
        no("to 3", x.crush(0, 1, 3, 1, 2));
        no("from -1", x.crush(0, -1, 1, 1, 2));
        no("to -1", x.crush(0, 1, -1, 1, 2));
        no("machine 1", x.crush(1, 0, 1, 1, 2));
        no("3/2", x.crush(0, 0, 1, 3, 2));
        no("1/13", x.crush(0, 0, 1, 1, 13));
        no("0/0", x.crush(0, 0, 1, 0, 0));
        no("-1/2", x.crush(0, 0, 1, -1, 2));
        x.solve();
        due("what was refused changes nothing", 25, x.out(0, 2, 0));
        yes("none", x.crush(0, 0, 1, 0, 1));
        yes("all", x.crush(0, 1, 2, 12, 12));
        x.solve();
        due("kind 0 uncrushed", 100, x.out(0, 0, 0));
        due("kind 1 all crushed", 0, x.out(0, 1, 0));
        due("kind 2 from 1", 60, x.out(0, 2, 0));

        ShareSolve y = fan(2, 2);
        y.feed(0, 0, 120);
        y.crush(0, 0, 1, 1, 4);
        y.share(0, 0, 0, 1, 3);
        y.share(0, 1, 0, 1, 2);
        y.solve();
        due("crushed before it is shared out, 0 to 0", 30, y.out(0, 0, 0));
        due("0 to 1", 60, y.out(1, 0, 0));
        due("1 to 0", 15, y.out(0, 1, 0));
        due("1 to 1", 15, y.out(1, 1, 0));
    }

    private static void feed() {
        promise = 7;
        ShareSolve x = fan(2, 1);
        x.solve();
        due("0 at first", 0, x.load(0, 0));
        yes("some", x.feed(0, 0, 1000000));
        yes("of the other", x.feed(0, 1, 3));
        x.solve();
        due("load", 1000003, x.load(0, 0));
        due("kind 0", 1000000, x.out(0, 0, 0));
        due("kind 1", 3, x.out(0, 1, 0));
        no("too many", x.feed(0, 0, 1000001));
        no("below 0", x.feed(0, 0, -1));
        no("kind 2", x.feed(0, 2, 1));
        no("kind -1", x.feed(0, -1, 1));
        no("machine 1", x.feed(1, 0, 1));
        no("machine -1", x.feed(-1, 0, 1));
        yes("in its stead", x.feed(0, 0, 4));
        yes("none", x.feed(0, 1, 0));
        x.solve();
        due("load now", 4, x.load(0, 0));
    }

    private static void solve() {
        promise = 8;
        ShareSolve x = new ShareSolve(2);
        due("nothing at all stands", 0, x.solve());
        for (int n = 0; n < 3; n++) {
            x.machine(2);
        }
        x.port();
        due("all is gone", 0, x.solve());
        x.joinOut(2, 0, 2);
        x.share(2, 1, 0, 1, 1);
        due("kind 1 stays in machine 2", 3, x.solve());
        due("nothing is known", NONE, x.load(0, 0));
        due("nor at ports", NONE, x.out(0, 0, 0));
        x.joinOut(1, 1, 2);
        due("and so machine 1 is the least", 2, x.solve());
        x.crush(1, 1, 0, 1, 12);
        due("but crushed it gets away from 1", 3, x.solve());
        x.crush(1, 1, 0, 0, 12);
        x.joinOut(0, 1, 1);
        due("and so machine 0", 1, x.solve());
        x.crush(2, 1, 0, 1, 12);
        due("some crushed in machine 2", 0, x.solve());
        x.crush(2, 1, 0, 0, 1);
        x.crush(2, 0, 1, 1, 1);
        due("kind 0 all crushed to what stays", 1, x.solve());
        x.share(2, 1, 0, 11, 12);
        due("a twelfth gets away", 0, x.solve());
        x.joinOut(2, 1, 0);
        due("a round of three that keeps all", 1, x.solve());
        x.joinOut(1, 0, -2);
        due("an out with share 0 does not help", 1, x.solve());
        x.share(1, 1, 0, 1, 7);
        due("a share above 0 does, and all comes to kind 1", 0, x.solve());

        ShareSolve y = new ShareSolve(2);
        y.machine(2);
        y.machine(1);
        y.joinOut(0, 0, 1);
        y.joinOut(1, 0, 1);
        y.share(0, 1, 0, 1, 1);
        y.crush(0, 1, 0, 1, 1);
        due("machine 1 keeps all, but only kind 1 would come to it, and none is left", 2, y.solve());
        y.crush(0, 0, 1, 11, 12);
        due("a twelfth of kind 0 still gets away as it was", 2, y.solve());
        y.crush(0, 0, 1, 1, 1);
        due("none of kind 0 gets away as it was", 1, y.solve());

        ShareSolve big = new ShareSolve(1);
        big.machine(2);
        big.machine(2);
        big.port();
        big.joinOut(0, 0, 1);
        big.joinOut(0, 1, -2);
        big.joinOut(1, 0, 0);
        big.share(0, 0, 0, 2, 3);
        big.share(1, 0, 0, 3, 4);
        big.feed(0, 0, 100);
        due("a round of two", 0, big.solve());
        due("load 0 is 100 / (1 - 1/2)", 200, big.load(0, 0));
        due("load 1", 133, big.load(1, 0));
        due("load 1, decimals", 333333333, big.load(1, 6));
        due("port", 66, big.out(0, 0, 0));
        due("port, decimals", 666666666, big.out(0, 0, 1));
    }

    private static void out() {
        promise = 9;
        ShareSolve x = fan(2, 2);
        x.feed(0, 1, 10);
        x.share(0, 1, 0, 1, 7);
        due("not solved", NONE, x.out(0, 1, 0));
        x.solve();
        long[] want = {1, 428571428, 571428571, 428571428, 571428571, 428571428, 571428571};
        for (int part = 0; part <= 6; part++) {
            due("part " + part, want[part], x.out(0, 1, part));
        }
        due("part 7", NONE, x.out(0, 1, 7));
        due("part -1", NONE, x.out(0, 1, -1));
        due("kind 0", 0, x.out(0, 0, 0));
        due("kind 2", NONE, x.out(0, 2, 0));
        due("kind -1", NONE, x.out(0, -1, 0));
        due("port 3", NONE, x.out(3, 0, 0));
        due("port -1", NONE, x.out(-1, 0, 0));
        x.machine(1);
        x.machine(1);
        x.joinOut(1, 0, -3);
        x.joinOut(2, 0, -3);
        x.feed(1, 1, 7);
        x.feed(2, 1, 13);
        x.solve();
        due("from three machines", 28, x.out(1, 1, 0));
        due("from three machines, decimals", 571428571, x.out(1, 1, 1));
    }

    private static void load() {
        promise = 10;
        ShareSolve x = loop();
        x.feed(0, 0, 1);
        x.share(0, 0, 0, 1, 8);
        due("not solved", NONE, x.load(0, 0));
        x.solve();
        due("8/7", 1, x.load(0, 0));
        due("8/7, 1", 142857142, x.load(0, 1));
        due("8/7, 2", 857142857, x.load(0, 2));
        due("8/7, 6", 857142857, x.load(0, 6));
        due("part 7", NONE, x.load(0, 7));
        due("part -1", NONE, x.load(0, -1));
        due("machine 1", NONE, x.load(1, 0));
        due("machine -1", NONE, x.load(-1, 0));
        x.share(0, 0, 0, 1, 1);
        x.solve();
        due("not known", NONE, x.load(0, 0));
        ShareSolve y = fan(3, 1);
        y.feed(0, 0, 1);
        y.feed(0, 1, 20);
        y.feed(0, 2, 300);
        y.solve();
        due("all kinds together", 321, y.load(0, 0));
    }

    private static void span() {
        promise = 11;
        ShareSolve x = fan(1, 1);
        yes("0 .. 0", x.span(0, 0, 0));
        yes("widest", x.span(0, 0, 1000000000));
        yes("highest", x.span(0, 1000000000, 1000000000));
        no("below 0", x.span(0, -1, 5));
        no("beyond", x.span(0, 0, 1000000001));
        no("both beyond", x.span(0, 1000000001, 1000000002));
        no("turned round", x.span(0, 6, 5));
        no("machine 1", x.span(1, 0, 5));
        no("machine -1", x.span(-1, 0, 5));
        x.feed(0, 0, 3);
        x.solve();
        due("what was refused changes nothing", 0, x.over(0));
        x.span(0, 3, 3);
        due("in its stead", NONE, x.over(0));
    }

    private static void over() {
        promise = 12;
        ShareSolve x = new ShareSolve(1);
        for (int n = 0; n < 3; n++) {
            x.machine(2);
            x.feed(n, 0, 10 * (n + 1));
        }
        x.joinOut(1, 0, 1);
        x.share(1, 0, 0, 1, 4);
        x.solve();
        due("no spans", NONE, x.over(0));
        x.span(0, 0, 9);
        x.span(1, 0, 26);
        x.span(2, 31, 40);
        due("0 is over", 0, x.over(0));
        due("1 is over by two thirds", 1, x.over(1));
        due("2 is under", 2, x.over(2));
        due("no more", NONE, x.over(3));
        due("-1", NONE, x.over(-1));
        x.span(1, 26, 27);
        due("1 within", 2, x.over(1));
        due("so only two", NONE, x.over(2));
        x.span(1, 27, 30);
        due("1 is under by a third", 1, x.over(1));
        x.span(0, 10, 10);
        due("0 just within", 1, x.over(0));
        x.feed(0, 0, 500);
        due("as it was solved", 1, x.over(0));
        x.solve();
        due("as it is solved now", 0, x.over(0));
        x.share(1, 0, 0, 1, 1);
        x.solve();
        due("not known", NONE, x.over(0));
    }

    private static void slope() {
        promise = 13;
        ShareSolve x = loop();
        x.feed(0, 0, 100);
        x.share(0, 0, 0, 1, 2);
        x.share(0, 0, 1, 1, 4);
        due("1/4 * 100 / (1 - 1/2)^2", 100, x.slope(0, 0, 0, 0, 0));
        due("no decimals", 0, x.slope(0, 0, 0, 0, 1));
        due("100 / (1 - 1/2)", 200, x.slope(0, 0, 1, 0, 0));
        due("the last", NONE, x.slope(0, 0, 2, 0, 0));
        due("out 3", NONE, x.slope(0, 0, 3, 0, 0));
        due("out -1", NONE, x.slope(0, 0, -1, 0, 0));
        due("kind 1", NONE, x.slope(0, 1, 0, 0, 0));
        due("machine 1", NONE, x.slope(1, 0, 0, 0, 0));
        due("port 1", NONE, x.slope(0, 0, 0, 1, 0));
        due("port -1", NONE, x.slope(0, 0, 0, -1, 0));
        due("part 7", NONE, x.slope(0, 0, 0, 0, 7));
        due("part -1", NONE, x.slope(0, 0, 0, 0, -1));

        ShareSolve y = new ShareSolve(2);
        y.machine(2);
        y.machine(2);
        y.port();
        y.joinOut(0, 0, 1);
        y.joinOut(1, 1, -2);
        y.feed(0, 0, 1);
        y.share(0, 0, 0, 1, 3);
        due("- 1/3 lies above -1", -1, y.slope(1, 0, 0, 0, 0));
        due("and 2/3 above it", 666666666, y.slope(1, 0, 0, 0, 1));
        due("and so on", 666666666, y.slope(1, 0, 0, 0, 6));
        y.feed(0, 0, 300);
        due("- 100", -100, y.slope(1, 0, 0, 0, 0));
        due("- 100, decimals", 0, y.slope(1, 0, 0, 0, 3));
        due("of a share of 0 of a kind that does not come", 0, y.slope(1, 1, 0, 0, 0));
        y.crush(0, 0, 1, 1, 4);
        y.share(0, 1, 0, 1, 2);
        due("what passes is counted after crushing", 75, y.slope(0, 1, 0, 0, 0));
        y.crush(1, 0, 1, 1, 1);
        y.share(1, 1, 0, 1, 5);
        due("all kinds together come to the port", 180, y.slope(0, 0, 0, 0, 0));
        yes("a share of 1", y.share(0, 0, 0, 1, 1));
        due("has its slope, too", 180, y.slope(0, 0, 0, 0, 0));
    }

    private static void slopeAsItIsNow() {
        ShareSolve x = loop();
        x.feed(0, 0, 10);
        due("nothing was solved", 10, x.slope(0, 0, 1, 0, 0));
        x.solve();
        x.feed(0, 0, 30);
        due("not as it was solved", 30, x.slope(0, 0, 1, 0, 0));
        due("what was solved stays", 10, x.load(0, 0));
        no("kept", x.kept());
        x.solve();
        x.slope(0, 0, 1, 0, 0);
        yes("a slope tells nothing", x.kept());
        x.share(0, 0, 0, 1, 1);
        due("does not stand", NONE, x.slope(0, 0, 1, 0, 0));
        due("what was solved is known yet", 30, x.load(0, 0));
        x.port();
        x.share(0, 0, 0, 0, 1);
        due("a port that came after solve()", 0, x.slope(0, 0, 1, 1, 0));
    }

    private static void purity() {
        promise = 14;
        ShareSolve x = fan(2, 2);
        x.feed(0, 0, 1);
        x.feed(0, 1, 2);
        due("not solved", NONE, x.purity(1, 0, 0));
        x.solve();
        due("1/3", 0, x.purity(1, 0, 0));
        due("1/3, 1", 333333333, x.purity(1, 0, 1));
        due("2/3, 6", 666666666, x.purity(1, 1, 6));
        due("nothing comes there", NONE, x.purity(0, 0, 0));
        due("kind 2", NONE, x.purity(1, 2, 0));
        due("kind -1", NONE, x.purity(1, -1, 0));
        due("port 3", NONE, x.purity(3, 0, 0));
        due("port -1", NONE, x.purity(-1, 0, 0));
        due("part 7", NONE, x.purity(1, 0, 7));
        due("part -1", NONE, x.purity(1, 0, -1));
        x.feed(0, 0, 0);
        due("as it was solved", 333333333, x.purity(1, 0, 1));
        x.solve();
        due("all of it", 1, x.purity(1, 1, 0));
        due("no decimals", 0, x.purity(1, 1, 1));
        due("none of it", 0, x.purity(1, 0, 0));
    }

    private static void change() {
        promise = 15;
        ShareSolve x = loop();
        x.feed(0, 0, 60);
        yes("1/2", x.change(0, 0, 0, 1, 2));
        due("it is solved", 120, x.load(0, 0));
        yes("kept", x.kept());
        x.feed(0, 0, 90);
        no("refused", x.change(0, 0, 2, 1, 2));
        no("no share", x.change(0, 0, 0, 3, 2));
        no("none such", x.change(1, 0, 0, 1, 2));
        due("a refused one solves nothing", 120, x.load(0, 0));
        no("and it is not kept", x.kept());
        x.share(0, 0, 1, 1, 2);
        no("more than 1", x.change(0, 0, 0, 7, 12));
        due("nor does this", 120, x.load(0, 0));
        yes("0", x.change(0, 0, 1, 0, 1));
        due("solved", 180, x.load(0, 0));
        yes("all comes back", x.change(0, 0, 0, 1, 1));
        due("nothing is known", NONE, x.load(0, 0));
        no("it did not stand", x.kept());
        due("the share did change", 1, x.solve());
    }

    private static void find() {
        promise = 16;
        ShareSolve x = fan(1, 3);
        x.feed(0, 0, 1200);
        due("5 twelfths just do", 5, x.find(0, 0, 500));
        due("all is solved", 500, x.out(0, 0, 0));
        due("the rest", 700, x.out(2, 0, 0));
        yes("kept", x.kept());
        due("6 for a gram more", 6, x.find(0, 0, 501));
        due("0 for none", 0, x.find(0, 0, 0));
        due("12 for all", 12, x.find(0, 0, 1200));
        x.find(0, 0, 100);
        yes("the share became it: 11/12 are left", x.share(0, 0, 1, 11, 12));
        no("and no more", x.share(0, 0, 1, 1, 1));
        due("1 is as far as it goes", 1, x.find(0, 0, 100));
        due("2 would be more than 1", NONE, x.find(0, 0, 101));
        due("least of all that do, by the last out", 0, lastToPort().find(0, 0, 600));
        due("it must stand, too", 1, backByLast().find(0, 0, 0));
        due("only the kind counts", 4, twoKinds().find(0, 1, 400));
        due("only port 0 counts", NONE, onlyPortOne().find(0, 0, 1));
        ShareSolve awkward = fan(1, 3);
        awkward.feed(0, 0, 1000000);
        awkward.share(0, 0, 1, 1, 11);
        due("10/12 + 1/11 is less than 1", 10, awkward.find(0, 0, 833333));
        due("11/12 + 1/11 is more", NONE, awkward.find(0, 0, 833334));
    }

    private static ShareSolve lastToPort() {
        ShareSolve x = new ShareSolve(1);
        x.machine(2);
        x.port();
        x.joinOut(0, 1, -2);
        x.feed(0, 0, 600);
        return x;
    }

    private static ShareSolve backByLast() {
        ShareSolve x = new ShareSolve(1);
        x.machine(2);
        x.port();
        x.joinOut(0, 0, -2);
        x.joinOut(0, 1, 0);
        x.feed(0, 0, 600);
        return x;
    }

    private static ShareSolve twoKinds() {
        ShareSolve x = fan(2, 2);
        x.feed(0, 0, 1000000);
        x.feed(0, 1, 1200);
        x.share(0, 0, 0, 1, 1);
        return x;
    }

    private static ShareSolve onlyPortOne() {
        ShareSolve x = fan(1, 2);
        x.joinOut(0, 0, -3);
        x.feed(0, 0, 10);
        return x;
    }

    private static void findNone() {
        ShareSolve x = fan(1, 2);
        x.feed(0, 0, 120);
        x.change(0, 0, 0, 1, 7);
        due("too many", NONE, x.find(0, 0, 121));
        due("far too many", NONE, x.find(0, 0, 1000000000));
        yes("kept as before", x.kept());
        due("what was solved stays", 17, x.out(0, 0, 0));
        x.solve();
        due("the share stays", 17, x.out(0, 0, 0));
        due("and exactly so", 142857142, x.out(0, 0, 1));
        due("below 0", NONE, x.find(0, 0, -1));
        due("beyond", NONE, x.find(0, 0, 1000000001));
        due("kind 1", NONE, x.find(0, 1, 0));
        due("kind -1", NONE, x.find(0, -1, 0));
        due("machine 1", NONE, x.find(1, 0, 0));
        due("machine -1", NONE, x.find(-1, 0, 0));
        x.feed(0, 0, 1);
        due("too many again", NONE, x.find(0, 0, 2));
        no("not kept as before", x.kept());
        due("one out", NONE, fan(1, 1).find(0, 0, 0));
        ShareSolve y = new ShareSolve(1);
        y.machine(2);
        due("no port", NONE, y.find(0, 0, 0));
        y.port();
        due("a port", 0, y.find(0, 0, 0));
        y.joinOut(0, 0, 0);
        y.joinOut(0, 1, 0);
        due("it never stands", NONE, y.find(0, 0, 0));
        due("so what was solved stays", 0, y.load(0, 0));
    }

    private static void kept() {
        promise = 17;
        ShareSolve x = loop();
        no("nothing was solved", x.kept());
        x.solve();
        yes("solved", x.kept());
        x.span(0, 1, 2);
        yes("spans do not count", x.kept());
        x.machine(4);
        x.joinOut(0, 0, 7);
        x.share(0, 0, 2, 0, 1);
        x.crush(0, 0, 1, 0, 1);
        x.feed(0, 0, -1);
        x.change(0, 0, 2, 0, 1);
        x.find(0, 0, -1);
        yes("what is refused does not count", x.kept());
        x.slope(0, 0, 0, 0, 0);
        x.out(0, 0, 0);
        x.load(0, 0);
        x.over(0);
        x.purity(0, 0, 0);
        yes("asking does not count", x.kept());
        x.machine(1);
        no("a machine", again(x));
        x.port();
        no("a port", again(x));
        x.joinOut(0, 0, 0);
        no("a join, be it the same", again(x));
        x.share(0, 0, 0, 0, 1);
        no("a share, be it the same", again(x));
        x.feed(0, 0, 0);
        no("a feed, be it the same", again(x));
        ShareSolve y = fan(2, 2);
        y.solve();
        y.crush(0, 0, 1, 0, 1);
        no("a crush, be it the same", again(y));
        x.change(0, 0, 0, 1, 2);
        yes("change() solves", x.kept());
        x.feed(0, 0, 5);
        x.find(0, 0, 0);
        yes("find() solves", x.kept());
        x.port();
        due("full of ports", NONE, x.port());
        x.solve();
        x.port();
        yes("a refused port", x.kept());
        x.change(0, 0, 0, 1, 1);
        no("it does not stand", x.kept());
        x.solve();
        no("nor now", x.kept());
    }

    /** What kept() answers, and then solves again. */
    private static boolean again(ShareSolve x) {
        boolean kept = x.kept();
        x.solve();
        yes("solved again", x.kept());
        return kept;
    }

    /** Terms: what was solved stays, whatever is told. */
    private static void solvedStays() {
        promise = 9;
        ShareSolve x = new ShareSolve(1);
        x.machine(2);
        x.port();
        x.joinOut(0, 1, -2);
        x.feed(0, 0, 8);
        x.solve();
        x.feed(0, 0, 9);
        x.joinOut(0, 1, 0);
        x.share(0, 0, 0, 1, 2);
        x.machine(1);
        x.port();
        due("out", 8, x.out(0, 0, 0));
        due("load", 8, x.load(0, 0));
        due("purity", 1, x.purity(0, 0, 0));
        due("of a port that came after, nothing is known", NONE, x.out(1, 0, 0));
        due("of a machine that came after, nothing is known", NONE, x.load(1, 0));
        x.span(1, 5, 6);
        due("nor whether it is over", NONE, x.over(0));
        x.solve();
        due("now it is known", 0, x.out(1, 0, 0));
        due("and so is this", 0, x.load(1, 0));
        due("and this", 1, x.over(0));
    }

    /** Terms: of a whole number beyond a long its lowest 64 bits. */
    private static void parts() {
        promise = 10;
        ShareSolve x = new ShareSolve(3);
        for (int m = 0; m < 3; m++) {
            x.machine(3);
        }
        x.port();
        for (int m = 0; m < 3; m++) {
            x.joinOut(m, 0, 0);
            x.joinOut(m, 1, 0);
            x.joinOut(m, 2, m == 2 ? -2 : m + 1);
            for (int k = 0; k < 3; k++) {
                x.share(m, k, 0, 10, 11);
                x.share(m, k, 1, 1, m == 2 && k < 2 ? 11 : 12);
            }
            x.crush(m, 0, 1, m == 2 ? 1 : 0, 12);
            x.crush(m, 1, m == 2 ? 2 : 0, m == 2 ? 1 : 11, 12);
            x.crush(m, 2, 0, 11, 12);
        }
        x.feed(0, 0, 1000000);
        due("stands", 0, x.solve());
        due("all comes to the port at last", 1000000, x.out(0, 2, 0));
        due("and nothing besides", 0, x.out(0, 0, 0) + x.out(0, 1, 0) + x.out(0, 2, 1));
        // the load is 1754188486022191961808000000 / 2301421, so 762219726865354909774 and a rest
        due("its lowest 64 bits", 5903219843263293518L, x.load(0, 0));
        long[] groups = {439357249, 282073988, 201202648, 276868943, 144257395, 756795475};
        for (int part = 1; part <= 6; part++) {
            due("part " + part, groups[part - 1], x.load(0, part));
        }
        x.span(0, 0, 1000000000);
        due("it is over", 0, x.over(0));
    }

    /** No argument makes the machine throw, and none of these is such a one. */
    private static void oddArguments() {
        promise = 0;
        ShareSolve x = fan(3, 3);
        x.solve();
        for (int odd : ODD_INTS) {
            due("machine", NONE, odd == 3 ? NONE : x.machine(odd));
            no("joinOut", x.joinOut(odd, 0, -1) || x.joinOut(0, odd, -1));
            no("joinOut to", odd != -7 && x.joinOut(0, 0, odd) || x.joinOut(0, 0, -7));
            no("share", x.share(odd, 0, 0, 0, 1) || x.share(0, odd, 0, 0, 1) || x.share(0, 0, odd, 0, 1));
            no("crush", x.crush(odd, 0, 1, 0, 1) || x.crush(0, odd, 1, 0, 1) || x.crush(0, 0, odd, 0, 1));
            no("feed", x.feed(odd, 0, 0) || x.feed(0, odd, 0));
            no("span", x.span(odd, 0, 1));
            no("change", x.change(odd, 0, 0, 0, 1) || x.change(0, odd, 0, 0, 1) || x.change(0, 0, odd, 0, 1));
            due("out", NONE, Math.max(x.out(odd, 0, 0), x.out(0, odd, 0)));
            due("load", NONE, x.load(odd, 0));
            due("over", NONE, x.over(odd));
            due("slope", NONE, Math.max(x.slope(odd, 0, 0, 0, 0), x.slope(0, odd, 0, 0, 0)));
            due("slope", NONE, Math.max(x.slope(0, 0, odd, 0, 0), x.slope(0, 0, 0, odd, 0)));
            due("purity", NONE, Math.max(x.purity(odd, 0, 0), x.purity(0, odd, 0)));
            due("find", NONE, Math.max(x.find(odd, 0, 0), x.find(0, odd, 0)));
        }
        for (long odd : ODD_LONGS) {
            no("share", x.share(0, 0, 0, odd, 1) || x.share(0, 0, 0, 0, odd) || x.share(0, 0, 0, odd, odd));
            no("crush", x.crush(0, 0, 1, odd, 1) || x.crush(0, 0, 1, 0, odd) || x.crush(0, 0, 1, odd, odd));
            no("change", x.change(0, 0, 0, odd, 1) || x.change(0, 0, 0, 0, odd));
            no("feed", x.feed(0, 0, odd));
            no("span", x.span(0, odd, odd) || x.span(0, odd, 5) || x.span(0, 6, odd));
            due("find", NONE, x.find(0, 0, odd));
        }
        for (int part : new int[] {Integer.MIN_VALUE, -1, 7, Integer.MAX_VALUE}) {
            due("parts", NONE, Math.max(x.out(0, 0, part), x.load(0, part)));
            due("parts", NONE, Math.max(x.slope(0, 0, 0, 0, part), x.purity(0, 0, part)));
        }
        yes("none of these was told", x.kept());
        ShareSolve none = new ShareSolve(Integer.MIN_VALUE);
        due("one kind", 0, none.machine(1));
        no("one kind", none.feed(0, 1, 1));
    }
}
