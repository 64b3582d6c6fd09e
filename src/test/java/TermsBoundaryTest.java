import java.util.ArrayList;
import java.util.Arrays;
import java.util.List;
import java.util.function.Consumer;
import java.util.function.Supplier;

/** The boundary cases that the terms name, and that bind all promises. */
public final class TermsBoundaryTest extends Sentences {
    /** All of 1 .. 12 divide it, so each share of so many grams is a whole number of them. */
    private static final long EVEN = 27720;

    public static void main(String[] args) {
        run(TermsBoundaryTest.class, 0);
    }

    @Sentence(promise = 0, says = "There are KINDS, 0 .. K - 1, K being 1 .. 3")
    private static void kinds() {
        for (int kinds = 1; kinds <= 3; kinds++) {
            ShareSolve x = Lines.fan(kinds, 2);
            no("feed of kind -1", x.feed(0, -1, 5));
            yes("feed of kind 0", x.feed(0, 0, 5));
            yes("feed of the last kind", x.feed(0, kinds - 1, 5));
            no("feed of the kind after it", x.feed(0, kinds, 5));
            yes("share of the last kind", x.share(0, kinds - 1, 0, 1, 5));
            no("share of the kind after it", x.share(0, kinds, 0, 1, 5));
            due("solve", 0, x.solve());
            due("what comes of the last kind", 1, x.out(0, kinds - 1, 0));
            due("what comes of the kind after it", NONE, x.out(0, kinds, 0));
        }
    }

    @Sentence(promise = 0,
            says = "MACHINES, numbered from 0 on, 3 at most, each with 1 .. 3 OUTS, numbered from 0 on")
    private static void machinesAndOuts() {
        ShareSolve x = new ShareSolve(1);
        due("no outs", NONE, x.machine(0));
        for (int m = 0; m < 3; m++) {
            no("out of a machine that is not there", x.joinOut(m, 0, -1));
            due("machine", m, x.machine(m + 1));
            no("out -1", x.joinOut(m, -1, -1));
            yes("out 0", x.joinOut(m, 0, -1));
            yes("the last out", x.joinOut(m, m, -1));
            no("the out after it", x.joinOut(m, m + 1, -1));
        }
        due("a fourth machine", NONE, x.machine(1));
        no("out of it", x.joinOut(3, 0, -1));
        due("four outs", NONE, new ShareSolve(1).machine(4));
    }

    @Sentence(promise = 0, says = "and PORTS, numbered likewise, 3 at most")
    private static void ports() {
        ShareSolve x = new ShareSolve(1);
        x.machine(1);
        for (int p = 0; p < 3; p++) {
            no("to a port that is not there", x.joinOut(0, 0, -2 - p));
            due("port", p, x.port());
            yes("to the port", x.joinOut(0, 0, -2 - p));
        }
        due("a fourth port", NONE, x.port());
        no("to it", x.joinOut(0, 0, -5));
    }

    @Sentence(promise = 0, says = "or nothing (at first: what goes there is gone)")
    private static void goneAtFirst() {
        for (int outs = 1; outs <= 3; outs++) {
            ShareSolve x = new ShareSolve(1);
            x.machine(outs);
            x.port();
            x.feed(0, 0, 60);
            for (int out = 0; out + 1 < outs; out++) {
                x.share(0, 0, out, 1, 4);
            }
            due("it stands", 0, x.solve());
            due("load", 60, x.load(0, 0));
            due("nothing comes to the port", 0, x.out(0, 0, 0));
            for (int out = 0; out < outs; out++) {
                x.joinOut(0, out, -2);
                x.solve();
                due("joined it comes", out + 1 == outs ? 60 : 15 * (out + 1), x.out(0, 0, 0));
            }
            x.joinOut(0, outs - 1, -1);
            x.solve();
            due("joined to nothing it is gone", 15 * (outs - 1), x.out(0, 0, 0));
        }
    }

    @Sentence(promise = 0,
            says = "A SHARE is a fraction above / below, below of 1 .. 12, above of 0 .. below")
    private static void shareIsAFraction() {
        for (int below = -2; below <= 14; below++) {
            ShareSolve x = Lines.fan(2, 2);
            x.feed(0, 0, EVEN);
            for (int above = -2; above <= below + 2; above++) {
                boolean isShare = below >= 1 && below <= 12 && above >= 0 && above <= below;
                String fraction = above + " / " + below;
                due("share " + fraction, isShare ? 1 : 0, x.share(0, 0, 0, above, below) ? 1 : 0);
                due("change " + fraction, isShare ? 1 : 0, x.change(0, 0, 0, above, below) ? 1 : 0);
                if (isShare) {
                    due("what comes by " + fraction, EVEN * above / below, x.out(0, 0, 0));
                    due("its decimals", 0, x.out(0, 0, 1));
                }
                due("crush " + fraction, isShare ? 1 : 0, x.crush(0, 0, 1, above, below) ? 1 : 0);
                x.crush(0, 0, 1, 0, 1);
            }
        }
    }

    @Sentence(promise = 0,
            says = "A SHARE is a fraction above / below, below of 1 .. 12, above of 0 .. below")
    private static void shareInLongs() {
        // what would be a share if only the lowest 32 bits were looked at
        long[][] wrong = {{1, (1L << 32) + 12}, {(1L << 32) + 1, 12}, {-(1L << 32), 12},
            {(1L << 32) + 1, (1L << 32) + 12}, {0, 1L << 32}, {0, Long.MIN_VALUE}, {0, Long.MAX_VALUE},
            {Long.MIN_VALUE, 12}, {Long.MAX_VALUE, 12}, {Long.MAX_VALUE, Long.MAX_VALUE},
            {Long.MIN_VALUE, Long.MIN_VALUE}, {-1, -1}, {1, -12}, {-1, -12}};
        ShareSolve x = Lines.fan(2, 2);
        for (long[] fraction : wrong) {
            String words = fraction[0] + " / " + fraction[1];
            no("share " + words, x.share(0, 0, 0, fraction[0], fraction[1]));
            no("change " + words, x.change(0, 0, 0, fraction[0], fraction[1]));
            no("crush " + words, x.crush(0, 0, 1, fraction[0], fraction[1]));
        }
        yes("share 1 / 12", x.share(0, 0, 0, 1, 12));
        yes("change 12 / 12", x.change(0, 0, 0, 12, 12));
        yes("crush 0 / 1", x.crush(0, 0, 1, 0, 1));
    }

    @Sentence(promise = 0, says = "each out but the last has a share, 0 at first")
    private static void sharesAtFirst() {
        for (int outs = 1; outs <= 3; outs++) {
            ShareSolve x = Lines.fan(3, outs);
            for (int kind = 0; kind < 3; kind++) {
                x.feed(0, kind, 7 + kind);
            }
            x.solve();
            for (int kind = 0; kind < 3; kind++) {
                for (int out = 0; out + 1 < outs; out++) {
                    due("an out before the last", 0, x.out(out, kind, 0));
                }
                due("the last out", 7 + kind, x.out(outs - 1, kind, 0));
                for (int out = 0; out + 1 < outs; out++) {
                    yes("has a share", x.share(0, kind, out, 0, 1));
                }
                no("the last has none of its own", x.share(0, kind, outs - 1, 0, 1));
            }
        }
    }

    @Sentence(promise = 0, says = "together at most 1; the last one has the rest")
    private static void togetherAtMostOne() {
        for (int b = 1; b <= 12; b++) {
            for (int a = 0; a <= b; a++) {
                ShareSolve x = Lines.fan(1, 3);
                x.share(0, 0, 0, a, b);
                for (int d = 1; d <= 12; d++) {
                    for (int c = 0; c <= d; c++) {
                        boolean fits = a * d + c * b <= b * d;
                        String call = "share " + c + " / " + d + " beside " + a + " / " + b;
                        due(call, fits ? 1 : 0, x.share(0, 0, 1, c, d) ? 1 : 0);
                        x.share(0, 0, 1, 0, 1);
                    }
                }
            }
        }
    }

    @Sentence(promise = 0, says = "together at most 1; the last one has the rest")
    private static void lastHasTheRest() {
        ShareSolve x = Lines.fan(1, 3);
        x.feed(0, 0, 132000);
        x.share(0, 0, 0, 10, 11);
        x.share(0, 0, 1, 1, 12);
        x.solve();
        due("a rest of 1 / 132", 1000, x.out(2, 0, 0));
        x.share(0, 0, 1, 1, 11);
        x.solve();
        due("no rest", 0, x.out(2, 0, 0));
        due("nor decimals of it", 0, x.out(2, 0, 1));
        due("all by out 0", 120000, x.out(0, 0, 0));
        due("and out 1", 12000, x.out(1, 0, 0));
        x.share(0, 0, 1, 0, 1);
        x.share(0, 0, 0, 0, 1);
        x.solve();
        due("all is the rest", 132000, x.out(2, 0, 0));
    }

    @Sentence(promise = 0, says = "For each machine and kind each out but the last has a share")
    private static void sharesApart() {
        ShareSolve x = Lines.fan(2, 3);
        x.machine(3);
        yes("all of kind 0 by out 0", x.share(0, 0, 0, 1, 1));
        no("no more of it by out 1", x.share(0, 0, 1, 1, 12));
        yes("all of kind 1 by out 1", x.share(0, 1, 1, 1, 1));
        no("no more of it by out 0", x.share(0, 1, 0, 1, 12));
        yes("all of kind 0 by out 1 of another machine", x.share(1, 0, 1, 1, 1));
        x.feed(0, 0, 5);
        x.feed(0, 1, 6);
        x.solve();
        due("kind 0", 5, x.out(0, 0, 0));
        due("kind 1", 6, x.out(1, 1, 0));
        due("no rest of kind 0", 0, x.out(2, 0, 0));
        due("no rest of kind 1", 0, x.out(2, 1, 0));
    }

    @Sentence(promise = 0, says = "before it is shared out (all kinds at once; 0 at first)")
    private static void crushingAtFirst() {
        ShareSolve x = Lines.fan(3, 1);
        for (int kind = 0; kind < 3; kind++) {
            x.feed(0, kind, 12 * (kind + 1));
        }
        x.solve();
        for (int kind = 0; kind < 3; kind++) {
            due("as it was fed", 12 * (kind + 1), x.out(0, kind, 0));
        }
        x.crush(0, 2, 0, 1, 12);
        x.solve();
        due("kind 0 has some more", 15, x.out(0, 0, 0));
        due("kind 1 as before", 24, x.out(0, 1, 0));
        due("kind 2 some less", 33, x.out(0, 2, 0));
    }

    @Sentence(promise = 0, says = "before it is shared out (all kinds at once; 0 at first)")
    private static void crushingAtOnce() {
        ShareSolve x = Lines.fan(3, 1);
        for (int kind = 0; kind < 3; kind++) {
            x.feed(0, kind, 10 + kind);
            x.crush(0, kind, (kind + 1) % 3, 1, 1);
        }
        x.solve();
        due("kind 0 was 2", 12, x.out(0, 0, 0));
        due("kind 1 was 0", 10, x.out(0, 1, 0));
        due("kind 2 was 1", 11, x.out(0, 2, 0));
        x.crush(0, 0, 1, 11, 12);
        x.feed(0, 0, 12);
        x.solve();
        due("a twelfth of kind 0 stays it", 13, x.out(0, 0, 0));
        due("the others become 1", 11, x.out(0, 1, 0));
    }

    @Sentence(promise = 0, says = "before it is shared out (all kinds at once; 0 at first)")
    private static void crushedBeforeShared() {
        ShareSolve x = Lines.fan(2, 2);
        x.feed(0, 0, 60);
        x.share(0, 0, 0, 1, 1);
        x.solve();
        due("all of kind 0 by out 0", 60, x.out(0, 0, 0));
        x.crush(0, 0, 1, 1, 1);
        x.solve();
        due("as kind 1 nothing by out 0", 0, x.out(0, 1, 0));
        due("all by the last out", 60, x.out(1, 1, 0));
        x.share(0, 1, 0, 1, 3);
        x.solve();
        due("by the share of the kind that it became", 20, x.out(0, 1, 0));
    }

    @Sentence(promise = 0, says = "FEEDS are grams of each kind that are put into each machine (0 at first).")
    private static void feedsAtFirst() {
        ShareSolve x = new ShareSolve(3);
        for (int m = 0; m < 3; m++) {
            x.machine(1);
        }
        x.solve();
        for (int m = 0; m < 3; m++) {
            due("load without feed", 0, x.load(m, 0));
            due("its decimals", 0, x.load(m, 1));
        }
        x.feed(2, 2, 1);
        x.solve();
        due("load 0", 0, x.load(0, 0));
        due("load 1", 0, x.load(1, 0));
        due("load with a gram", 1, x.load(2, 0));
    }

    @Sentence(promise = 0,
            says = "WHAT COMES into a machine of a kind is its feed, and all that comes from outs that are joined to it")
    private static void whatComes() {
        ShareSolve x = new ShareSolve(1);
        x.machine(3);
        x.machine(3);
        x.port();
        x.feed(0, 0, 1200);
        x.feed(1, 0, 7);
        x.share(0, 0, 0, 1, 3);
        x.share(0, 0, 1, 1, 4);
        x.solve();
        due("nothing is joined to it", 7, x.load(1, 0));
        x.joinOut(0, 0, 1);
        x.solve();
        due("one out is", 407, x.load(1, 0));
        x.joinOut(0, 1, 1);
        x.solve();
        due("two are", 707, x.load(1, 0));
        x.joinOut(0, 2, 1);
        x.solve();
        due("all three are", 1207, x.load(1, 0));
        x.share(1, 0, 0, 1, 2);
        x.joinOut(1, 0, 1);
        x.solve();
        due("and one of its own", 2414, x.load(1, 0));
    }

    @Sentence(promise = 0, says = "what comes to a port likewise")
    private static void whatComesToAPort() {
        ShareSolve x = new ShareSolve(1);
        x.machine(3);
        x.machine(1);
        x.port();
        x.feed(0, 0, 1200);
        x.feed(1, 0, 7);
        x.share(0, 0, 0, 1, 3);
        x.share(0, 0, 1, 1, 4);
        long[] wants = {0, 400, 700, 1200};
        for (int joined = 0; joined <= 3; joined++) {
            x.solve();
            due("outs joined: " + joined, wants[joined], x.out(0, 0, 0));
            x.joinOut(0, Math.min(joined, 2), -2);
        }
        x.joinOut(1, 0, -2);
        x.solve();
        due("and one of another machine", 1207, x.out(0, 0, 0));
    }

    @Sentence(promise = 0, says = "THE LOAD of a machine is what comes into it of all kinds together.")
    private static void loadOfAllKinds() {
        ShareSolve x = new ShareSolve(3);
        x.machine(2);
        x.joinOut(0, 0, 0);
        x.feed(0, 0, 1);
        x.solve();
        due("one kind", 1, x.load(0, 0));
        x.feed(0, 1, 20);
        x.feed(0, 2, 300);
        x.solve();
        due("three kinds", 321, x.load(0, 0));
        x.crush(0, 0, 1, 1, 1);
        x.solve();
        due("crushing takes nothing away", 321, x.load(0, 0));
        x.share(0, 2, 0, 1, 2);
        x.solve();
        due("what comes back comes in, too", 621, x.load(0, 0));
    }

    @Sentence(promise = 0,
            says = "some of it, by shares above 0 (crushed or not), comes at last to a port or is gone")
    private static void itStands() {
        for (int to : new int[] {-1, -2}) {
            ShareSolve x = new ShareSolve(2);
            x.machine(2);
            x.port();
            x.joinOut(0, 0, 0);
            x.joinOut(0, 1, to);
            due("all gets away", 0, x.solve());
            x.share(0, 1, 0, 11, 12);
            due("a twelfth does", 0, x.solve());
            x.share(0, 1, 0, 12, 12);
            due("none of kind 1 does", 1, x.solve());
            x.crush(0, 1, 0, 1, 12);
            due("a twelfth of it, crushed, does", 0, x.solve());
            x.crush(0, 1, 0, 0, 12);
            due("none is crushed", 1, x.solve());
            x.share(0, 1, 0, 0, 1);
            x.crush(0, 1, 0, 12, 12);
            x.share(0, 0, 0, 12, 12);
            due("all of kind 1 becomes 0, and none of that gets away", 1, x.solve());
            x.crush(0, 0, 1, 1, 12);
            due("what becomes 1 leaves as 1", 0, x.solve());
        }
    }

    @Sentence(promise = 0, says = "comes at last to a port or is gone")
    private static void theLongestWay() {
        int[][] orders = {{0, 1, 2}, {0, 2, 1}, {1, 0, 2}, {1, 2, 0}, {2, 0, 1}, {2, 1, 0}};
        for (int[] m : orders) {
            for (int[] k : orders) {
                ShareSolve x = longestWay(m, k);
                due("out by all nine machines and kinds", 0, x.solve());
                due("all comes to the port", 9, x.out(0, k[0], 0));
                due("three times through the first machine", 27, x.load(m[0], 0));
                due("and through the last", 27, x.load(m[2], 0));
                x.joinOut(m[2], 1, m[2]);
                due("its end is closed", 1, x.solve());
                x.joinOut(m[2], 1, -1);
                due("its end is gone", 0, x.solve());
                x.crush(m[1], k[2], k[0], 0, 1);
                due("a link is missing", 1 + Math.min(m[0], m[1]), x.solve());
            }
        }
    }

    /**
     * Each machine turns kind 0 into 1, 1 into 2, 2 into 0, keeps 1 and 2, and passes on 0: so
     * there is one way alone, and the one that looks for it in the wrong order finds it at last.
     */
    private static ShareSolve longestWay(int[] m, int[] k) {
        ShareSolve x = new ShareSolve(3);
        for (int n = 0; n < 3; n++) {
            x.machine(2);
        }
        x.port();
        for (int n = 0; n < 3; n++) {
            x.joinOut(m[n], 0, m[n]);
            x.joinOut(m[n], 1, n == 2 ? -2 : m[n + 1]);
            for (int kind = 0; kind < 3; kind++) {
                x.crush(m[n], k[kind], k[(kind + 1) % 3], 1, 1);
                x.share(m[n], k[kind], 0, kind == 0 ? 0 : 1, 1);
            }
        }
        x.feed(m[0], k[0], 9);
        return x;
    }

    @Sentence(promise = 0, says = "part 0 is the whole number below or at it")
    private static void wholeNumberBelowOrAt() {
        ShareSolve x = Lines.fan(1, 3);
        x.feed(0, 0, 132);
        x.share(0, 0, 0, 10, 11);
        x.share(0, 0, 1, 1, 12);
        x.solve();
        due("exactly 120", 120, x.out(0, 0, 0));
        due("and nothing left", 0, x.out(0, 0, 1));
        x.feed(0, 0, 131);
        x.solve();
        due("119 and 1 / 11", 119, x.out(0, 0, 0));
        due("is left", 90909090, x.out(0, 0, 1));
        due("131 / 132 are below 1", 0, x.out(2, 0, 0));
        due("by 1 / 132", 992424242, x.out(2, 0, 1));
        due("load", 131, x.load(0, 0));
    }

    @Sentence(promise = 0, says = "part 0 is the whole number below or at it")
    private static void wholeNumberBelowANegative() {
        ShareSolve x = Lines.fan(1, 3);
        x.machine(2);
        x.joinOut(0, 0, 1);
        x.joinOut(1, 1, -2);
        x.share(0, 0, 0, 1, 12);
        x.feed(0, 0, 12);
        due("exactly -1", -1, x.slope(1, 0, 0, 0, 0));
        due("and nothing left", 0, x.slope(1, 0, 0, 0, 1));
        due("nor later", 0, x.slope(1, 0, 0, 0, 6));
        x.feed(0, 0, 11);
        due("- 11 / 12 is above -1", -1, x.slope(1, 0, 0, 0, 0));
        due("by 1 / 12", 83333333, x.slope(1, 0, 0, 0, 1));
        due("and so on", 333333333, x.slope(1, 0, 0, 0, 6));
        x.feed(0, 0, 13);
        due("- 13 / 12 is above -2", -2, x.slope(1, 0, 0, 0, 0));
        due("by 11 / 12", 916666666, x.slope(1, 0, 0, 0, 1));
        x.feed(0, 0, 0);
        due("0 is no negative", 0, x.slope(1, 0, 0, 0, 0));
    }

    @Sentence(promise = 0, says = "(of one beyond a long its lowest 64 bits)")
    private static void loadBeyondALong() {
        ShareSolve x = Lines.huge();
        // 9222858695070794408, below 2^63, and 9223620914797659763, above it
        dueLoad(x, 12100, 9222858695070794408L);
        dueLoad(x, 12101, -9223123158911891853L);
        // 18446479609868454171, below 2^64, and 18447241829595319526, above it
        dueLoad(x, 24201, -264463841097445L);
        dueLoad(x, 24202, 497755885767910L);
        // 762219726865354909774 and some
        dueLoad(x, 1000000, 5903219843263293518L);
        long[] groups = {439357249, 282073988, 201202648, 276868943, 144257395, 756795475};
        for (int part = 1; part <= 6; part++) {
            due("its part " + part, groups[part - 1], x.load(0, part));
        }
    }

    private static void dueLoad(ShareSolve x, long grams, long want) {
        x.feed(0, 0, grams);
        due("solve", 0, x.solve());
        due("load by " + grams, want, x.load(0, 0));
        due("what comes by " + grams, grams, x.out(0, 0, 0) + x.out(0, 1, 0) + x.out(0, 2, 0));
    }

    @Sentence(promise = 0, says = "(of one beyond a long its lowest 64 bits)")
    private static void slopeBeyondALong() {
        ShareSolve x = Lines.steep(false);
        x.feed(0, 0, 1000000);
        dueSlope(x, 455008, 9223371695833852298L, 704917332);
        dueSlope(x, 455009, -9223366038823477047L, 546245149);
        x.feed(2, 0, 1000000);
        dueSlope(x, 910016, -683625847019L, 409834664);
        dueSlope(x, 910017, 5655426375252L, 251162481);
        ShareSolve y = Lines.steep(true);
        y.feed(0, 0, 1000000);
        dueSlope(y, 455008, -9223371695833852299L, 295082667);
        dueSlope(y, 455009, 9223366038823477046L, 453754850);
        y.feed(2, 0, 1000000);
        dueSlope(y, 910016, 683625847018L, 590165335);
        dueSlope(y, 910017, -5655426375253L, 748837518);
    }

    private static void dueSlope(ShareSolve x, long grams, long whole, long group) {
        x.feed(1, 0, grams);
        due("slope by " + grams, whole, x.slope(0, 0, 0, 0, 0));
        due("its part 1", group, x.slope(0, 0, 0, 0, 1));
    }

    @Sentence(promise = 0, says = "part j, 1 .. 6, the j-th group of nine decimals of what is left")
    private static void groupsOfNine() {
        ShareSolve x = Lines.fan(1, 2);
        x.share(0, 0, 0, 1, 7);
        x.feed(0, 0, 10);
        x.solve();
        dueParts("10 / 7", x, 1, 428571428, 571428571, 428571428, 571428571, 428571428, 571428571);
        x.feed(0, 0, 14);
        x.solve();
        dueParts("2", x, 2, 0, 0, 0, 0, 0, 0);
        x.change(0, 0, 0, 1, 11);
        dueParts("14 / 11", x, 1, 272727272, 727272727, 272727272, 727272727, 272727272, 727272727);
        x.change(0, 0, 0, 1, 8);
        dueParts("7 / 4", x, 1, 750000000, 0, 0, 0, 0, 0);
    }

    private static void dueParts(String what, ShareSolve x, long... groups) {
        for (int part = 0; part < groups.length; part++) {
            due(what + ", part " + part, groups[part], x.out(0, 0, part));
        }
        due(what + ", part -1", NONE, x.out(0, 0, -1));
        due(what + ", part 7", NONE, x.out(0, 0, 7));
    }

    @Sentence(promise = 0, says = "that times 10^9, down, then with what is left again")
    private static void groupsOfSmallAmounts() {
        ShareSolve x = Lines.tiny();
        long[][] wants = {{0, 0, 251613806, 671964002, 848606460, 482799631, 866053659},
            {0, 0, 754841420, 15892008, 545819381, 448398895, 598160979},
            {0, 1, 6455226, 687856011, 394425841, 931198527, 464214638}};
        long[] feeds = {1, 3, 4};
        for (int n = 0; n < feeds.length; n++) {
            x.feed(0, 0, feeds[n]);
            x.solve();
            for (int part = 0; part <= 6; part++) {
                due(feeds[n] + " / 1584^3, part " + part, wants[n][part], x.out(0, 1, part));
            }
        }
    }

    @Sentence(promise = 0, says = "A call that is refused changes nothing.")
    private static void refusedChangesNothing() {
        List<Consumer<ShareSolve>> calls = new ArrayList<>();
        calls.add(x -> due("machine(0)", NONE, x.machine(0)));
        calls.add(x -> due("machine(4)", NONE, x.machine(4)));
        calls.add(x -> no("joinOut of machine -1", x.joinOut(-1, 0, -1)));
        calls.add(x -> no("joinOut of machine 3", x.joinOut(3, 0, -1)));
        calls.add(x -> no("joinOut of out -1", x.joinOut(1, -1, -1)));
        calls.add(x -> no("joinOut of out 2 of 2", x.joinOut(1, 2, -1)));
        calls.add(x -> no("joinOut of out 3 of 3", x.joinOut(0, 3, -1)));
        calls.add(x -> no("joinOut to machine 3", x.joinOut(0, 0, 3)));
        calls.add(x -> no("joinOut to port 3", x.joinOut(0, 0, -5)));
        calls.add(x -> no("share of the last out", x.share(0, 0, 2, 0, 1)));
        calls.add(x -> no("share of out 3", x.share(0, 0, 3, 0, 1)));
        calls.add(x -> no("share of kind 3", x.share(0, 3, 0, 0, 1)));
        calls.add(x -> no("share of machine 3", x.share(3, 0, 0, 0, 1)));
        calls.add(x -> no("share 1 / 13", x.share(0, 0, 0, 1, 13)));
        calls.add(x -> no("share 0 / 0", x.share(0, 0, 0, 0, 0)));
        calls.add(x -> no("shares above 1", x.share(0, 0, 0, 9, 11)));
        calls.add(x -> no("crush of kind 3", x.crush(0, 3, 0, 1, 2)));
        calls.add(x -> no("crush to kind 3", x.crush(0, 0, 3, 1, 2)));
        calls.add(x -> no("crush to the same", x.crush(0, 0, 0, 1, 2)));
        calls.add(x -> no("crush 3 / 2", x.crush(0, 0, 2, 3, 2)));
        calls.add(x -> no("crush in machine 3", x.crush(3, 0, 1, 1, 2)));
        calls.add(x -> no("feed -1", x.feed(0, 0, -1)));
        calls.add(x -> no("feed 1000001", x.feed(0, 0, 1000001)));
        calls.add(x -> no("feed of kind 3", x.feed(0, 3, 5)));
        calls.add(x -> no("feed of machine 3", x.feed(3, 0, 5)));
        calls.add(x -> no("span from -1", x.span(0, -1, 1000000)));
        calls.add(x -> no("span up to 1000000001", x.span(0, 0, 1000000001)));
        calls.add(x -> no("span turned round", x.span(1, 3, 2)));
        calls.add(x -> no("span of machine 3", x.span(3, 0, 1)));
        calls.add(x -> no("change of the last out", x.change(1, 0, 1, 0, 1)));
        calls.add(x -> no("change 1 / 13", x.change(0, 0, 0, 1, 13)));
        calls.add(x -> no("change above 1", x.change(0, 0, 1, 9, 10)));
        calls.add(x -> due("find -1", NONE, x.find(0, 0, -1)));
        calls.add(x -> due("find of kind 3", NONE, x.find(0, 3, 0)));
        calls.add(x -> due("find of machine 3", NONE, x.find(3, 0, 0)));
        calls.add(x -> due("find too much", NONE, x.find(0, 0, 1000000)));
        calls.add(x -> due("find 1000000001", NONE, x.find(0, 0, 1000000001)));
        for (Consumer<ShareSolve> call : calls) {
            sameWithout(call, Lines::rich);
            sameWithout(call, TermsBoundaryTest::toldSince);
        }
        sameWithout(x -> due("a fourth machine", NONE, x.machine(1)), Lines::full);
        sameWithout(x -> due("a fourth port", NONE, x.port()), Lines::full);
        sameWithout(x -> due("find by one out", NONE, x.find(2, 0, 0)), Lines::full);
    }

    /** Something was told, so that it is not kept, and another solution is due. */
    private static ShareSolve toldSince() {
        ShareSolve x = Lines.rich();
        x.feed(0, 0, 12345);
        return x;
    }

    /** Whether an object answers all as one that was not called, now and when it is solved. */
    private static void sameWithout(Consumer<ShareSolve> call, Supplier<ShareSolve> maker) {
        ShareSolve called = maker.get();
        ShareSolve left = maker.get();
        call.accept(called);
        yes("as before", Arrays.equals(Lines.state(left), Lines.state(called)));
        due("solve", left.solve(), called.solve());
        yes("solved as before", Arrays.equals(Lines.state(left), Lines.state(called)));
        due("room for machines", left.machine(2), called.machine(2));
        due("room for ports", left.port(), called.port());
    }

    @Sentence(promise = 0,
            says = "What was solved stays, whatever is told, until the next solve(), find() or change().")
    private static void solvedStays() {
        List<Consumer<ShareSolve>> calls = new ArrayList<>();
        calls.add(x -> yes("joinOut", x.joinOut(0, 1, -3)));
        calls.add(x -> yes("joinOut to what keeps all", x.joinOut(0, 1, 0) && x.joinOut(1, 1, 1)));
        calls.add(x -> yes("share", x.share(0, 0, 0, 0, 1)));
        calls.add(x -> yes("crush", x.crush(0, 0, 2, 1, 2)));
        calls.add(x -> yes("feed", x.feed(0, 0, 5)));
        calls.add(x -> yes("machine and port", x.machine(1) == 2 && x.port() == 2
                && x.joinOut(2, 0, -4) && x.joinOut(0, 0, 2)));
        for (Consumer<ShareSolve> call : calls) {
            ShareSolve x = Lines.rich();
            long[] before = Lines.known(x);
            call.accept(x);
            yes("what was solved stays", Arrays.equals(before, Lines.known(x)));
            x.slope(0, 0, 0, 0, 0);
            yes("beside a slope, too", Arrays.equals(before, Lines.known(x)));
            x.solve();
            no("until the next solve()", Arrays.equals(before, Lines.known(x)));
        }
    }

    @Sentence(promise = 0, says = "until the next solve(), find() or change()")
    private static void solvedAnew() {
        for (int way = 0; way < 6; way++) {
            ShareSolve x = Lines.fan(1, 2);
            x.feed(0, 0, 120);
            x.share(0, 0, 0, 1, 2);
            x.solve();
            x.feed(0, 0, 240);
            due("before", 120, x.load(0, 0));
            due("before", 60, x.out(0, 0, 0));
            if (way == 0) {
                x.solve();
            } else if (way == 1) {
                due("find", 6, x.find(0, 0, 120));
            } else if (way == 2) {
                yes("change", x.change(0, 0, 0, 1, 2));
            } else if (way == 3) {
                due("find that finds none", NONE, x.find(0, 0, 241));
            } else if (way == 4) {
                no("change that is refused", x.change(0, 0, 1, 1, 2));
            } else {
                yes("share", x.share(0, 0, 0, 1, 2));
            }
            due("then", way < 3 ? 240 : 120, x.load(0, 0));
            due("then", way < 3 ? 120 : 60, x.out(0, 0, 0));
        }
    }

    @Sentence(promise = 0, says = "An object is used for at most 512 calls after it has been made")
    private static void calls512() {
        ShareSolve x = new ShareSolve(3);
        x.machine(2);
        for (int round = 1; round <= 170; round++) {
            yes("feed", x.feed(0, 2, round));
            due("solve", 0, x.solve());
            due("load", round, x.load(0, 0));
        }
        yes("the 512th call", x.kept());
    }
}
