/** The boundary cases of solve() and of what is asked: promises 8 to 10 and 12 to 14. */
public final class AskingBoundaryTest extends Sentences {
    private static final int[] FAR = {Integer.MIN_VALUE, -1000, 1000, Integer.MAX_VALUE};

    public static void main(String[] args) {
        run(AskingBoundaryTest.class, 8, 9, 10, 12, 13, 14);
    }

    /** A line with 1 to 3 machines of two outs, out 0 of each joined to itself, and a port. */
    private static ShareSolve machinesAlone(int kinds, int machines) {
        ShareSolve x = new ShareSolve(kinds);
        x.port();
        for (int m = 0; m < machines; m++) {
            x.machine(2);
            x.joinOut(m, 0, m);
        }
        return x;
    }

    @Sentence(promise = 8, says = "0 when it stands")
    private static void solveOfNothing() {
        ShareSolve x = new ShareSolve(3);
        due("neither machines nor ports", 0, x.solve());
        yes("kept", x.kept());
        x.port();
        due("a port alone", 0, x.solve());
        due("what comes there", 0, x.out(0, 2, 0));
        x.machine(1);
        due("a machine that is joined to nothing", 0, x.solve());
        x.joinOut(0, 0, 0);
        due("one that keeps all", 1, x.solve());
        x.joinOut(0, 0, -2);
        due("one that gives all to the port", 0, x.solve());
    }

    @Sentence(promise = 8, says = "0 when it stands")
    private static void solveByTheLeastShare() {
        for (int kind = 0; kind < 3; kind++) {
            ShareSolve x = machinesAlone(3, 1);
            x.feed(0, kind, 1);
            due("all gets away", 0, x.solve());
            x.share(0, kind, 0, 11, 12);
            due("a twelfth gets away", 0, x.solve());
            due("load", 12, x.load(0, 0));
            x.share(0, kind, 0, 12, 12);
            due("none does", 1, x.solve());
            x.share(0, kind, 0, 10, 11);
            due("an eleventh does", 0, x.solve());
            due("load", 11, x.load(0, 0));
        }
    }

    @Sentence(promise = 8, says = "0 when it stands")
    private static void solveByARoundOfThree() {
        ShareSolve x = new ShareSolve(1);
        for (int m = 0; m < 3; m++) {
            x.machine(2);
        }
        for (int m = 0; m < 3; m++) {
            x.joinOut(m, 0, (m + 1) % 3);
            x.share(m, 0, 0, 1, 1);
        }
        x.feed(0, 0, 1);
        due("a round that keeps all", 1, x.solve());
        for (int m = 0; m < 3; m++) {
            x.share(m, 0, 0, 11, 12);
            due("a twelfth gets away at machine " + m, 0, x.solve());
            due("load", 12, x.load(m, 0));
            x.share(m, 0, 0, 1, 1);
            due("and none", 1, x.solve());
        }
    }

    @Sentence(promise = 8,
            says = "else 1 and the least machine from which some kind comes to no port and is not gone")
    private static void leastMachine() {
        for (int stuck = 0; stuck < 8; stuck++) {
            for (int kind = 0; kind < 2; kind++) {
                ShareSolve x = machinesAlone(2, 3);
                int least = 3;
                for (int m = 2; m >= 0; m--) {
                    if ((stuck >> m & 1) != 0) {
                        x.share(m, kind, 0, 1, 1);
                        least = m;
                    }
                }
                due("machines that keep all: " + stuck, least < 3 ? 1 + least : 0, x.solve());
            }
        }
    }

    @Sentence(promise = 8,
            says = "else 1 and the least machine from which some kind comes to no port and is not gone")
    private static void leastMachineByAnother() {
        ShareSolve x = machinesAlone(1, 3);
        x.share(2, 0, 0, 1, 1);
        due("machine 2 keeps all", 3, x.solve());
        x.joinOut(1, 1, 2);
        due("and all that machine 1 has comes to it", 2, x.solve());
        x.joinOut(0, 1, 2);
        due("and that of machine 0", 1, x.solve());
        x.joinOut(0, 0, -2);
        due("a way out without a share is none", 1, x.solve());
        x.share(0, 0, 0, 1, 12);
        due("with a twelfth it is one", 2, x.solve());
        x.joinOut(1, 0, 0);
        due("as is a way to machine 0, without a share", 2, x.solve());
        x.share(1, 0, 0, 1, 12);
        due("with a twelfth", 3, x.solve());
        x.joinOut(2, 0, 1);
        due("and for machine 2 that to machine 1", 0, x.solve());
    }

    @Sentence(promise = 8,
            says = "else 1 and the least machine from which some kind comes to no port and is not gone")
    private static void someKindThatWasNotFed() {
        ShareSolve x = machinesAlone(3, 2);
        x.feed(0, 0, 5);
        x.share(1, 2, 0, 1, 1);
        due("none is fed, none comes there, and yet it is named", 2, x.solve());
        x.share(1, 2, 0, 11, 12);
        due("it gets away", 0, x.solve());
        x.crush(0, 1, 2, 1, 1);
        x.share(0, 1, 0, 1, 1);
        due("kind 1 comes back as it is, but none is left of it", 0, x.solve());
        x.share(0, 2, 0, 1, 1);
        due("it becomes kind 2, of which all comes back", 1, x.solve());
        x.crush(0, 2, 0, 1, 12);
        due("of which a twelfth becomes kind 0", 0, x.solve());
    }

    @Sentence(promise = 8,
            says = "else 1 and the least machine from which some kind comes to no port and is not gone")
    private static void someKindThatIsCrushed() {
        ShareSolve x = machinesAlone(2, 2);
        x.share(1, 1, 0, 1, 1);
        x.joinOut(0, 0, 1);
        x.share(0, 1, 0, 1, 1);
        x.crush(0, 1, 0, 1, 12);
        due("from machine 1 none of kind 1 gets away", 2, x.solve());
        x.crush(0, 0, 1, 11, 12);
        due("a twelfth of kind 0 gets away from machine 0 as it is", 2, x.solve());
        x.crush(0, 0, 1, 12, 12);
        due("none does: all of it becomes 1 and comes to machine 1", 1, x.solve());
        x.share(0, 1, 0, 11, 12);
        due("a twelfth of what became 1 does", 2, x.solve());
        x.share(1, 1, 0, 11, 12);
        due("and from machine 1", 0, x.solve());
    }

    @Sentence(promise = 8, says = "(nothing is known then)")
    private static void nothingKnownThen() {
        ShareSolve x = machinesAlone(1, 2);
        x.joinOut(0, 1, -2);
        x.feed(0, 0, 5);
        x.span(0, 0, 4);
        for (int round = 0; round < 2; round++) {
            x.share(1, 0, 0, 1, 2);
            due("it stands", 0, x.solve());
            due("load", 5, x.load(0, 0));
            due("out", 5, x.out(0, 0, 0));
            due("purity", 1, x.purity(0, 0, 0));
            due("over", 0, x.over(0));
            yes("kept", x.kept());
            x.share(1, 0, 0, 1, 1);
            due("load as it was solved", 5, x.load(0, 0));
            due("machine 1 keeps all", 2, x.solve());
            due("load, even of the other", NONE, x.load(0, 0));
            due("load of machine 1", NONE, x.load(1, 0));
            due("out", NONE, x.out(0, 0, 0));
            due("purity", NONE, x.purity(0, 0, 0));
            due("over", NONE, x.over(0));
            due("slope", NONE, x.slope(0, 0, 0, 0, 0));
            no("kept", x.kept());
        }
    }

    @Sentence(promise = 9, says = "A part of what comes to a port of a kind")
    private static void outOfAKind() {
        ShareSolve x = Lines.fan(3, 3);
        for (int kind = 0; kind < 3; kind++) {
            x.feed(0, kind, 100);
            x.share(0, kind, 0, kind + 1, 12);
            x.share(0, kind, 1, 1, 4);
        }
        x.solve();
        long[][] wants = {{8, 333333333}, {16, 666666666}, {25, 0}};
        for (int kind = 0; kind < 3; kind++) {
            due("port 0, kind " + kind, wants[kind][0], x.out(0, kind, 0));
            due("its decimals", wants[kind][1], x.out(0, kind, 1));
            due("port 1", 25, x.out(1, kind, 0));
        }
        due("port 2, kind 0", 66, x.out(2, 0, 0));
        due("port 2, kind 2", 50, x.out(2, 2, 0));
    }

    @Sentence(promise = 9, says = "NONE when there is none such")
    private static void outOfNone() {
        ShareSolve x = new ShareSolve(2);
        x.machine(1);
        x.port();
        x.port();
        x.joinOut(0, 0, -3);
        x.feed(0, 1, 3);
        x.solve();
        for (int port = -1; port <= 3; port++) {
            for (int kind = -1; kind <= 3; kind++) {
                for (int part = -1; part <= 7; part++) {
                    boolean there = (port == 0 || port == 1) && (kind == 0 || kind == 1)
                            && part >= 0 && part <= 6;
                    long amount = port == 1 && kind == 1 && part == 0 ? 3 : 0;
                    due("out(" + port + ", " + kind + ", " + part + ")", there ? amount : NONE,
                            x.out(port, kind, part));
                }
            }
        }
        for (int far : FAR) {
            due("port " + far, NONE, x.out(far, 0, 0));
            due("kind " + far, NONE, x.out(0, far, 0));
            due("part " + far, NONE, x.out(0, 0, far));
        }
    }

    @Sentence(promise = 9, says = "or it is not known")
    private static void outNotKnown() {
        ShareSolve x = Lines.back();
        x.feed(0, 0, 3);
        due("not solved", NONE, x.out(0, 0, 0));
        x.solve();
        due("solved", 3, x.out(0, 0, 0));
        x.share(0, 0, 0, 1, 1);
        due("told, not solved again", 3, x.out(0, 0, 0));
        x.solve();
        due("it does not stand", NONE, x.out(0, 0, 0));
        due("nor its decimals", NONE, x.out(0, 0, 6));
        x.share(0, 0, 0, 0, 1);
        due("told, not solved again", NONE, x.out(0, 0, 0));
        x.solve();
        due("solved", 3, x.out(0, 0, 0));
    }

    @Sentence(promise = 10, says = "A part of a machine's load")
    private static void partsOfALoad() {
        ShareSolve x = Lines.back();
        x.share(0, 0, 0, 1, 8);
        x.feed(0, 0, 1);
        x.solve();
        long[] wants = {1, 142857142, 857142857, 142857142, 857142857, 142857142, 857142857};
        for (int part = 0; part <= 6; part++) {
            due("8 / 7, part " + part, wants[part], x.load(0, part));
        }
        x.feed(0, 0, 7);
        x.solve();
        due("8", 8, x.load(0, 0));
        due("no decimals", 0, x.load(0, 1));
        x.feed(0, 0, 6);
        x.solve();
        due("48 / 7", 6, x.load(0, 0));
        due("its decimals", 857142857, x.load(0, 1));
    }

    @Sentence(promise = 10, says = "NONE likewise")
    private static void loadOfNone() {
        ShareSolve x = new ShareSolve(1);
        x.port();
        for (int there = 0; there <= 3; there++) {
            x.solve();
            for (int machine = -2; machine <= 4; machine++) {
                due("load of machine " + machine + " of " + there,
                        machine >= 0 && machine < there ? 10 + machine : NONE, x.load(machine, 0));
            }
            x.machine(1);
            x.feed(there, 0, 10 + there);
        }
        for (int part = -2; part <= 8; part++) {
            long want = part == 0 ? 12 : part > 0 && part <= 6 ? 0 : NONE;
            due("part " + part, want, x.load(2, part));
        }
        for (int far : FAR) {
            due("machine " + far, NONE, x.load(far, 0));
            due("part " + far, NONE, x.load(0, far));
        }
    }

    @Sentence(promise = 10, says = "NONE likewise")
    private static void loadNotKnown() {
        ShareSolve x = Lines.back();
        x.feed(0, 0, 3);
        due("not solved", NONE, x.load(0, 0));
        x.solve();
        due("solved", 3, x.load(0, 0));
        x.share(0, 0, 0, 1, 1);
        due("told, not solved again", 3, x.load(0, 0));
        x.solve();
        due("it does not stand", NONE, x.load(0, 0));
        x.share(0, 0, 0, 2, 3);
        due("told, not solved again", NONE, x.load(0, 0));
        x.solve();
        due("solved", 9, x.load(0, 0));
    }

    /** Three machines with loads of 10, 20 and 30, solved. */
    private static ShareSolve three() {
        ShareSolve x = new ShareSolve(1);
        for (int m = 0; m < 3; m++) {
            x.machine(1);
            x.feed(m, 0, 10 * (m + 1));
        }
        x.solve();
        return x;
    }

    @Sentence(promise = 12, says = "The k-th machine, from 0 on")
    private static void kthMachine() {
        for (int outside = 0; outside < 8; outside++) {
            ShareSolve x = three();
            int[] wants = {NONE, NONE, NONE};
            int count = 0;
            for (int m = 0; m < 3; m++) {
                boolean is = (outside >> m & 1) != 0;
                long low = 10 * (m + 1) + (is ? 1 : 0);
                x.span(m, low, low);
                if (is) {
                    wants[count++] = m;
                }
            }
            for (int k = 0; k < 3; k++) {
                due("over(" + k + ") of " + outside, wants[k], x.over(k));
            }
            due("over(3)", NONE, x.over(3));
            due("over(-1)", NONE, x.over(-1));
        }
    }

    @Sentence(promise = 12, says = "with a span outside of which its load was")
    private static void withASpan() {
        ShareSolve x = three();
        due("no spans", NONE, x.over(0));
        x.span(1, 0, 19);
        due("one above", 1, x.over(0));
        due("and no more", NONE, x.over(1));
        x.span(1, 0, 20);
        due("just within", NONE, x.over(0));
        x.span(1, 20, 20);
        due("just within, from both sides", NONE, x.over(0));
        x.span(1, 21, 30);
        due("one below", 1, x.over(0));
        x.span(1, 20, 30);
        due("just within", NONE, x.over(0));
        x.span(0, 0, 0);
        due("0 is a span, too", 0, x.over(0));
        x.feed(0, 0, 0);
        x.solve();
        due("and a load of 0 is within", NONE, x.over(0));
    }

    @Sentence(promise = 12, says = "outside of which its load was")
    private static void outsideByLittle() {
        ShareSolve x = Lines.back();
        x.share(0, 0, 0, 1, 4);
        x.feed(0, 0, 20);
        x.solve();
        due("load 26 and 2 / 3", 26, x.load(0, 0));
        x.span(0, 0, 26);
        due("above 26", 0, x.over(0));
        x.span(0, 0, 27);
        due("below 27", NONE, x.over(0));
        x.span(0, 27, 30);
        due("not at 27", 0, x.over(0));
        x.span(0, 26, 30);
        due("not below 26", NONE, x.over(0));
        x.feed(0, 0, 21);
        x.solve();
        x.span(0, 28, 28);
        due("just 28", NONE, x.over(0));
    }

    @Sentence(promise = 12, says = "outside of which its load was")
    private static void outsideByTheLeast() {
        ShareSolve x = new ShareSolve(2);
        for (int m = 0; m < 3; m++) {
            x.machine(3);
        }
        // of each gram machine 1 passes on 1 / 1584, so that 100 and a little more come to 2
        x.crush(1, 0, 1, 1, 12);
        x.share(1, 0, 0, 1, 1);
        x.share(1, 1, 0, 10, 11);
        x.share(1, 1, 1, 1, 12);
        x.joinOut(1, 2, 2);
        x.feed(2, 0, 100);
        x.span(2, 0, 100);
        x.solve();
        due("just 100", NONE, x.over(0));
        x.feed(1, 0, 1);
        x.solve();
        due("100 and 1 / 1584", 2, x.over(0));
        due("of which part 0", 100, x.load(2, 0));
        due("and part 1", 631313, x.load(2, 1));
        x.span(2, 101, 200);
        due("below 101", 2, x.over(0));
        x.feed(1, 0, 1584);
        x.solve();
        due("just 101", NONE, x.over(0));
        x.feed(1, 0, 1583);
        x.solve();
        due("1 / 1584 below 101", 2, x.over(0));
    }

    @Sentence(promise = 12, says = "outside of which its load was")
    private static void outsideBeyondALong() {
        ShareSolve x = Lines.huge();
        x.feed(0, 0, 20711);
        x.feed(0, 1, 1069);
        x.feed(1, 0, 745);
        x.feed(1, 1, 643);
        x.feed(2, 1, 1034);
        x.solve();
        // the load is 2^64 + 22 and some
        due("its lowest 64 bits", 22, x.load(0, 0));
        x.span(0, 0, 1000000000);
        due("and yet it is outside", 0, x.over(0));
        x.span(0, 22, 23);
        due("and here", 0, x.over(0));
        x.span(2, 0, 1000000000);
        due("as is machine 2", 2, x.over(1));
        for (int m = 0; m < 3; m++) {
            x.feed(m, 0, 0);
            x.feed(m, 1, 0);
        }
        x.solve();
        due("a load of 0 is below 22", 0, x.over(0));
        due("and no more", NONE, x.over(1));
    }

    @Sentence(promise = 12, says = "as it was solved")
    private static void overAsItWasSolved() {
        ShareSolve x = three();
        x.span(0, 0, 10);
        x.span(2, 0, 29);
        due("machine 2", 2, x.over(0));
        x.feed(0, 0, 11);
        x.feed(2, 0, 29);
        due("as it was solved", 2, x.over(0));
        due("and no more", NONE, x.over(1));
        x.solve();
        due("solved again", 0, x.over(0));
        due("and no more", NONE, x.over(1));
    }

    @Sentence(promise = 12, says = "NONE when there is none such")
    private static void overOfNone() {
        ShareSolve x = three();
        for (int m = 0; m < 3; m++) {
            x.span(m, 0, 1);
        }
        for (int k = -2; k <= 5; k++) {
            due("over(" + k + ") of three", k >= 0 && k <= 2 ? k : NONE, x.over(k));
        }
        for (int far : FAR) {
            due("over(" + far + ")", NONE, x.over(far));
        }
        x.span(1, 0, 20);
        due("over(1) of two", 2, x.over(1));
        due("over(2) of two", NONE, x.over(2));
    }

    @Sentence(promise = 12, says = "or it is not known")
    private static void overNotKnown() {
        ShareSolve x = Lines.back();
        x.feed(0, 0, 3);
        x.span(0, 0, 2);
        due("not solved", NONE, x.over(0));
        x.solve();
        due("solved", 0, x.over(0));
        x.share(0, 0, 0, 1, 1);
        due("told, not solved again", 0, x.over(0));
        x.solve();
        due("it does not stand", NONE, x.over(0));
        x.share(0, 0, 0, 0, 1);
        x.solve();
        due("solved", 0, x.over(0));
    }

    @Sentence(promise = 13, says = "by how much what comes to a port of all kinds together grows")
    private static void slopeOfAllKinds() {
        ShareSolve x = new ShareSolve(3);
        x.machine(2);
        x.machine(1);
        x.port();
        x.joinOut(0, 0, 1);
        x.joinOut(1, 0, -2);
        x.feed(0, 0, 60);
        x.feed(0, 1, 7);
        due("all that comes in of kind 0", 60, x.slope(0, 0, 0, 0, 0));
        due("and of kind 1", 7, x.slope(0, 1, 0, 0, 0));
        due("and of kind 2", 0, x.slope(0, 2, 0, 0, 0));
        x.crush(1, 0, 2, 1, 4);
        due("though some then becomes another kind", 60, x.slope(0, 0, 0, 0, 0));
        x.crush(1, 0, 2, 1, 1);
        due("or all", 60, x.slope(0, 0, 0, 0, 0));
        x.crush(0, 0, 1, 1, 3);
        due("what is left of kind 0 when it is shared out", 40, x.slope(0, 0, 0, 0, 0));
        due("and what became kind 1 by then", 27, x.slope(0, 1, 0, 0, 0));
        x.crush(0, 0, 1, 1, 1);
        due("nothing left", 0, x.slope(0, 0, 0, 0, 0));
        due("all became 1", 67, x.slope(0, 1, 0, 0, 0));
    }

    @Sentence(promise = 13, says = "an out that is not its last grows")
    private static void slopeOfTheLast() {
        for (int outs = 1; outs <= 3; outs++) {
            ShareSolve x = Lines.fan(1, outs);
            x.feed(0, 0, 9);
            for (int out = -1; out <= 4; out++) {
                boolean there = out >= 0 && out < outs - 1;
                due("out " + out + " of " + outs + " to port 0",
                        there ? out == 0 ? 9 : 0 : NONE, x.slope(0, 0, out, 0, 0));
            }
            due("the last, part 1", NONE, x.slope(0, 0, outs - 1, 0, 1));
        }
    }

    @Sentence(promise = 13, says = "(and the last out's is less)")
    private static void slopeOfTheLastOutsPort() {
        ShareSolve x = Lines.fan(1, 3);
        x.feed(0, 0, 9);
        x.share(0, 0, 0, 1, 4);
        x.share(0, 0, 1, 1, 4);
        due("its own port", 9, x.slope(0, 0, 0, 0, 0));
        due("that of an out beside it", 0, x.slope(0, 0, 0, 1, 0));
        due("that of the last", -9, x.slope(0, 0, 0, 2, 0));
        x.joinOut(0, 0, -4);
        due("both go to the same", 0, x.slope(0, 0, 0, 2, 0));
        due("and none there", 0, x.slope(0, 0, 0, 0, 0));
        x.joinOut(0, 0, -1);
        due("its own is gone", -9, x.slope(0, 0, 0, 2, 0));
        x.joinOut(0, 2, -1);
        due("both are", 0, x.slope(0, 0, 0, 2, 0));
    }

    @Sentence(promise = 13, says = "just there, by all as it is now: the derivative")
    private static void slopeJustThere() {
        ShareSolve x = Lines.loop();
        x.feed(0, 0, 120);
        x.share(0, 0, 1, 1, 12);
        // what comes to port 0 is 10 / (1 - s), its derivative 10 / (1 - s)^2
        long[][] wants = {{10, 0}, {11, 900826446}, {14, 400000000}, {17, 777777777}, {22, 500000000},
            {29, 387755102}, {40, 0}, {57, 600000000}, {90, 0}, {160, 0}, {360, 0}, {1440, 0}};
        for (int twelfths = 0; twelfths <= 11; twelfths++) {
            yes("share " + twelfths + " / 12", x.share(0, 0, 0, twelfths, 12));
            due("slope there", wants[twelfths][0], x.slope(0, 0, 0, 0, 0));
            due("its decimals", wants[twelfths][1], x.slope(0, 0, 0, 0, 1));
        }
        no("there is no more to share", x.share(0, 0, 0, 12, 12));
        due("and yet it has its slope", 1440, x.slope(0, 0, 0, 0, 0));
    }

    @Sentence(promise = 13, says = "just there, by all as it is now: the derivative")
    private static void slopeAtTheEnds() {
        ShareSolve x = Lines.fan(1, 2);
        x.feed(0, 0, 5);
        due("at 0", 5, x.slope(0, 0, 0, 0, 0));
        due("at 0, the last", -5, x.slope(0, 0, 0, 1, 0));
        x.share(0, 0, 0, 1, 1);
        due("at 1", 5, x.slope(0, 0, 0, 0, 0));
        due("at 1, the last", -5, x.slope(0, 0, 0, 1, 0));
        x.share(0, 0, 0, 1, 2);
        due("between", 5, x.slope(0, 0, 0, 0, 0));
    }

    @Sentence(promise = 13, says = "just there, by all as it is now: the derivative")
    private static void slopeAsItIsNow() {
        ShareSolve x = Lines.fan(1, 2);
        x.feed(0, 0, 5);
        due("nothing was solved", 5, x.slope(0, 0, 0, 0, 0));
        x.solve();
        due("solved", 5, x.slope(0, 0, 0, 0, 0));
        x.feed(0, 0, 6);
        due("told since", 6, x.slope(0, 0, 0, 0, 0));
        x.joinOut(0, 0, -4);
        due("joined since", 0, x.slope(0, 0, 0, 0, 0));
        due("to there", 6, x.slope(0, 0, 0, 2, 0));
        due("what was solved stays", 5, x.out(1, 0, 0));
        x.machine(2);
        x.feed(1, 0, 7);
        x.joinOut(1, 0, -2);
        due("a machine that came since", 7, x.slope(1, 0, 0, 0, 0));
        ShareSolve y = new ShareSolve(1);
        y.machine(2);
        y.solve();
        due("no port", NONE, y.slope(0, 0, 0, 0, 0));
        y.port();
        due("a port that came since", 0, y.slope(0, 0, 0, 0, 0));
    }

    @Sentence(promise = 13, says = "NONE when there are none such")
    private static void slopeOfNone() {
        ShareSolve x = Lines.fan(2, 2);
        x.machine(2);
        x.feed(0, 0, 5);
        x.feed(1, 1, 7);
        x.joinOut(1, 0, -3);
        for (int machine = -1; machine <= 3; machine++) {
            for (int kind = -1; kind <= 3; kind++) {
                for (int port = -1; port <= 4; port++) {
                    boolean there = machine >= 0 && machine <= 1 && kind >= 0 && kind <= 1
                            && port >= 0 && port <= 2;
                    due("slope(" + machine + ", " + kind + ", 0, " + port + ")",
                            there ? slopeDue(machine, kind, port) : NONE, x.slope(machine, kind, 0, port, 0));
                }
            }
        }
        for (int part = -2; part <= 8; part++) {
            long want = part == 0 ? 5 : part > 0 && part <= 6 ? 0 : NONE;
            due("part " + part, want, x.slope(0, 0, 0, 0, part));
        }
        for (int far : FAR) {
            due("machine " + far, NONE, x.slope(far, 0, 0, 0, 0));
            due("kind " + far, NONE, x.slope(0, far, 0, 0, 0));
            due("out " + far, NONE, x.slope(0, 0, far, 0, 0));
            due("port " + far, NONE, x.slope(0, 0, 0, far, 0));
            due("part " + far, NONE, x.slope(0, 0, 0, 0, far));
        }
    }

    private static long slopeDue(int machine, int kind, int port) {
        if (machine == 0 && kind == 0 && port < 2) {
            return port == 0 ? 5 : -5;
        }
        return machine == 1 && kind == 1 && port == 1 ? 7 : 0;
    }

    @Sentence(promise = 13, says = "or as it is now it does not stand")
    private static void slopeWhenItDoesNotStand() {
        ShareSolve x = Lines.loop();
        x.feed(0, 0, 60);
        x.share(0, 0, 0, 11, 12);
        x.solve();
        due("a twelfth gets away", 720, x.slope(0, 0, 1, 0, 0));
        x.share(0, 0, 0, 12, 12);
        due("none does, though it stood when it was solved", NONE, x.slope(0, 0, 1, 0, 0));
        due("nor its decimals", NONE, x.slope(0, 0, 1, 0, 1));
        x.solve();
        due("nor as it was solved", NONE, x.slope(0, 0, 1, 0, 0));
        x.share(0, 0, 0, 1, 2);
        due("it would stand now, though it did not", 120, x.slope(0, 0, 1, 0, 0));
        x.machine(1);
        due("so it does with another machine", 120, x.slope(0, 0, 1, 0, 0));
        x.joinOut(1, 0, 1);
        due("which keeps all of what never comes to it", NONE, x.slope(0, 0, 1, 0, 0));
        x.joinOut(1, 0, -2);
        due("and no more", 120, x.slope(0, 0, 1, 0, 0));
    }

    @Sentence(promise = 14, says = "A part of the share of a kind in all that comes to a port")
    private static void purityOfAKind() {
        ShareSolve x = Lines.fan(3, 1);
        x.feed(0, 0, 1);
        x.feed(0, 1, 2);
        x.solve();
        due("1 / 3", 0, x.purity(0, 0, 0));
        due("its decimals", 333333333, x.purity(0, 0, 1));
        due("2 / 3", 666666666, x.purity(0, 1, 6));
        due("none of it", 0, x.purity(0, 2, 0));
        due("nor decimals", 0, x.purity(0, 2, 1));
        x.feed(0, 0, 0);
        x.solve();
        due("all of it", 1, x.purity(0, 1, 0));
        due("and no more", 0, x.purity(0, 1, 1));
        due("none of this", 0, x.purity(0, 0, 0));
        x.feed(0, 0, 1000000);
        x.feed(0, 1, 0);
        x.feed(0, 2, 1);
        x.solve();
        due("all but a little", 0, x.purity(0, 0, 0));
        due("1000000 / 1000001", 999999000, x.purity(0, 0, 1));
        due("1 / 1000001", 999, x.purity(0, 2, 1));
    }

    @Sentence(promise = 14, says = "as it was solved")
    private static void purityAsItWasSolved() {
        ShareSolve x = Lines.fan(2, 1);
        x.feed(0, 0, 1);
        x.feed(0, 1, 1);
        x.solve();
        due("a half", 500000000, x.purity(0, 0, 1));
        x.feed(0, 1, 3);
        due("as it was solved", 500000000, x.purity(0, 0, 1));
        x.solve();
        due("a quarter", 250000000, x.purity(0, 0, 1));
    }

    @Sentence(promise = 14, says = "NONE when there is none such")
    private static void purityOfNone() {
        ShareSolve x = new ShareSolve(2);
        x.machine(2);
        x.port();
        x.port();
        x.joinOut(0, 0, -2);
        x.joinOut(0, 1, -3);
        x.share(0, 1, 0, 1, 2);
        x.feed(0, 1, 8);
        x.solve();
        for (int port = -2; port <= 4; port++) {
            for (int kind = -2; kind <= 4; kind++) {
                boolean there = (port == 0 || port == 1) && (kind == 0 || kind == 1);
                due("purity(" + port + ", " + kind + ")", there ? kind : NONE, x.purity(port, kind, 0));
            }
        }
        for (int part = -2; part <= 8; part++) {
            long want = part == 0 ? 1 : part > 0 && part <= 6 ? 0 : NONE;
            due("part " + part, want, x.purity(1, 1, part));
        }
        for (int far : FAR) {
            due("port " + far, NONE, x.purity(far, 0, 0));
            due("kind " + far, NONE, x.purity(0, far, 0));
            due("part " + far, NONE, x.purity(0, 0, far));
        }
    }

    @Sentence(promise = 14, says = "nothing comes there")
    private static void purityOfNothing() {
        ShareSolve x = Lines.fan(2, 2);
        x.solve();
        due("nothing is fed", NONE, x.purity(1, 0, 0));
        x.feed(0, 1, 1);
        x.solve();
        due("nothing by a share of 0", NONE, x.purity(0, 1, 0));
        due("all by the last", 1, x.purity(1, 1, 0));
        due("of the other kind none", 0, x.purity(1, 0, 0));
        x.share(0, 1, 0, 1, 12);
        x.solve();
        due("a twelfth of a gram", 1, x.purity(0, 1, 0));
        due("of the other kind none", 0, x.purity(0, 0, 0));
        x.share(0, 1, 0, 1, 1);
        x.solve();
        due("nothing by the last", NONE, x.purity(1, 1, 0));
        due("nor its decimals", NONE, x.purity(1, 1, 1));
        due("port 2 is joined to nothing", NONE, x.purity(2, 0, 0));
        ShareSolve y = Lines.tiny();
        y.solve();
        due("nothing is fed", NONE, y.purity(0, 1, 0));
        y.feed(0, 0, 1);
        y.solve();
        due("some 10^-10 grams", 1, y.purity(0, 1, 0));
    }

    @Sentence(promise = 14, says = "or it is not known")
    private static void purityNotKnown() {
        ShareSolve x = Lines.back();
        x.feed(0, 0, 3);
        due("not solved", NONE, x.purity(0, 0, 0));
        x.solve();
        due("solved", 1, x.purity(0, 0, 0));
        x.share(0, 0, 0, 1, 1);
        due("told, not solved again", 1, x.purity(0, 0, 0));
        x.solve();
        due("it does not stand", NONE, x.purity(0, 0, 0));
        x.share(0, 0, 0, 11, 12);
        x.solve();
        due("solved", 1, x.purity(0, 0, 0));
    }
}
