/** The boundary cases of the promises by which a line is told: 1 to 7 and 11. */
public final class TellingBoundaryTest extends Sentences {
    private static final int[] FAR = {Integer.MIN_VALUE, -1000, 1000, Integer.MAX_VALUE};

    public static void main(String[] args) {
        run(TellingBoundaryTest.class, 1, 2, 3, 4, 5, 6, 7, 11);
    }

    @Sentence(promise = 1, says = "No machines, no ports")
    private static void noMachines() {
        ShareSolve x = new ShareSolve(2);
        x.port();
        x.solve();
        for (int there = 0; there < 2; there++) {
            due("joinOut", there, x.joinOut(0, 0, -1) ? 1 : 0);
            due("share", there, x.share(0, 0, 0, 1, 2) ? 1 : 0);
            due("crush", there, x.crush(0, 0, 1, 1, 2) ? 1 : 0);
            due("feed", there, x.feed(0, 0, 4) ? 1 : 0);
            due("span", there, x.span(0, 5, 5) ? 1 : 0);
            due("slope", there == 0 ? NONE : 0, x.slope(0, 0, 0, 0, 0));
            due("change", there, x.change(0, 0, 0, 1, 2) ? 1 : 0);
            due("find", there == 0 ? NONE : 0, x.find(0, 0, 0));
            due("load", there == 0 ? NONE : 4, x.load(0, 0));
            due("over", there == 0 ? NONE : 0, x.over(0));
            due("the first machine", there, x.machine(2));
        }
    }

    @Sentence(promise = 1, says = "No machines, no ports")
    private static void noPorts() {
        ShareSolve x = new ShareSolve(1);
        x.machine(2);
        x.feed(0, 0, 4);
        for (int there = 0; there < 2; there++) {
            due("joinOut", there, x.joinOut(0, 1, -2) ? 1 : 0);
            due("solve", 0, x.solve());
            due("out", there == 0 ? NONE : 4, x.out(0, 0, 0));
            due("purity", there == 0 ? NONE : 1, x.purity(0, 0, 0));
            due("slope", there == 0 ? NONE : -4, x.slope(0, 0, 0, 0, 0));
            due("find", there == 0 ? NONE : 0, x.find(0, 0, 0));
            due("the first port", there, x.port());
        }
    }

    @Sentence(promise = 1, says = "kinds of 1 .. 3 (of another number 1)")
    private static void kindsOfANewObject() {
        dueKinds(0, 1);
        dueKinds(1, 1);
        dueKinds(2, 2);
        dueKinds(3, 3);
        dueKinds(4, 1);
        dueKinds(-1, 1);
        dueKinds(-2, 1);
        dueKinds(-3, 1);
        for (int far : FAR) {
            dueKinds(far, 1);
        }
    }

    private static void dueKinds(int told, int want) {
        ShareSolve x = new ShareSolve(told);
        x.machine(2);
        x.port();
        x.joinOut(0, 1, -2);
        for (int kind = -1; kind <= 5; kind++) {
            String call = "kind " + kind + " of ShareSolve(" + told + ")";
            boolean there = kind >= 0 && kind < want;
            due("feed, " + call, there ? 1 : 0, x.feed(0, kind, 9) ? 1 : 0);
            due("share, " + call, there ? 1 : 0, x.share(0, kind, 0, 0, 1) ? 1 : 0);
            due("crush to 0, " + call, there && kind > 0 ? 1 : 0, x.crush(0, kind, 0, 0, 1) ? 1 : 0);
            due("crush from 0, " + call, there && kind > 0 ? 1 : 0, x.crush(0, 0, kind, 0, 1) ? 1 : 0);
        }
        x.solve();
        due("load of ShareSolve(" + told + ")", 9 * want, x.load(0, 0));
        for (int kind = -1; kind <= 5; kind++) {
            boolean there = kind >= 0 && kind < want;
            due("out of kind " + kind, there ? 9 : NONE, x.out(0, kind, 0));
        }
    }

    @Sentence(promise = 1, says = "Nothing was solved.")
    private static void nothingWasSolved() {
        ShareSolve x = new ShareSolve(1);
        no("kept", x.kept());
        x.machine(1);
        x.port();
        x.joinOut(0, 0, -2);
        x.feed(0, 0, 3);
        x.span(0, 0, 2);
        no("kept, all told", x.kept());
        due("out", NONE, x.out(0, 0, 0));
        due("load", NONE, x.load(0, 0));
        due("purity", NONE, x.purity(0, 0, 0));
        due("over", NONE, x.over(0));
        due("solve", 0, x.solve());
        yes("kept, solved", x.kept());
        due("out, solved", 3, x.out(0, 0, 0));
        due("load, solved", 3, x.load(0, 0));
        due("purity, solved", 1, x.purity(0, 0, 0));
        due("over, solved", 0, x.over(0));
    }

    @Sentence(promise = 2, says = "One more machine. Answers its number")
    private static void machineNumbers() {
        ShareSolve x = new ShareSolve(1);
        for (int m = 0; m < 3; m++) {
            no("feed before", x.feed(m, 0, 10 + m));
            due("one that is refused has no number", NONE, x.machine(0));
            due("machine", m, x.machine(3 - m));
            yes("feed then", x.feed(m, 0, 10 + m));
            no("feed of the next", x.feed(m + 1, 0, 1));
            x.port();
        }
        x.solve();
        for (int m = 0; m < 3; m++) {
            due("load", 10 + m, x.load(m, 0));
        }
    }

    @Sentence(promise = 2, says = "NONE when there are 3")
    private static void noFourthMachine() {
        ShareSolve x = new ShareSolve(1);
        x.machine(1);
        x.machine(1);
        due("the third", 2, x.machine(1));
        for (int outs = 0; outs <= 4; outs++) {
            due("a fourth with outs " + outs, NONE, x.machine(outs));
        }
        no("feed of a fourth", x.feed(3, 0, 1));
        yes("feed of the third", x.feed(2, 0, 1));
    }

    @Sentence(promise = 2, says = "or outs are not 1 .. 3")
    private static void outsOfAMachine() {
        for (int outs = -2; outs <= 6; outs++) {
            ShareSolve x = new ShareSolve(1);
            boolean right = outs >= 1 && outs <= 3;
            due("machine(" + outs + ")", right ? 0 : NONE, x.machine(outs));
            due("feed of it", right ? 1 : 0, x.feed(0, 0, 1) ? 1 : 0);
            for (int out = -1; out <= 5; out++) {
                due("joinOut of out " + out + " of " + outs, right && out >= 0 && out < outs ? 1 : 0,
                        x.joinOut(0, out, -1) ? 1 : 0);
                due("share of out " + out + " of " + outs, right && out >= 0 && out < outs - 1 ? 1 : 0,
                        x.share(0, 0, out, 0, 1) ? 1 : 0);
            }
        }
        for (int far : FAR) {
            due("machine(" + far + ")", NONE, new ShareSolve(1).machine(far));
        }
    }

    @Sentence(promise = 3, says = "One more port. Answers its number")
    private static void portNumbers() {
        ShareSolve x = new ShareSolve(1);
        x.machine(1);
        x.machine(1);
        for (int p = 0; p < 3; p++) {
            x.solve();
            due("out before", NONE, x.out(p, 0, 0));
            due("port", p, x.port());
            x.solve();
            due("out then", 0, x.out(p, 0, 0));
            due("out of the next", NONE, x.out(p + 1, 0, 0));
        }
    }

    @Sentence(promise = 3, says = "NONE when there are 3")
    private static void noFourthPort() {
        ShareSolve x = new ShareSolve(1);
        x.machine(1);
        x.port();
        x.port();
        due("the third", 2, x.port());
        due("a fourth", NONE, x.port());
        due("a fifth", NONE, x.port());
        x.solve();
        due("out of the third", 0, x.out(2, 0, 0));
        due("out of a fourth", NONE, x.out(3, 0, 0));
        due("machines are counted apart", 1, x.machine(1));
    }

    @Sentence(promise = 4, says = "An out is joined to a machine (to >= 0)")
    private static void joinedToAMachine() {
        ShareSolve x = new ShareSolve(1);
        x.feed(x.machine(1), 0, 6);
        for (int there = 1; there <= 3; there++) {
            for (int to = 0; to <= 4; to++) {
                x.joinOut(0, 0, -1);
                due("machine " + to + " of " + there, to < there ? 1 : 0, x.joinOut(0, 0, to) ? 1 : 0);
                due("solve: by itself it would keep all", to == 0 ? 1 : 0, x.solve());
                for (int m = 1; m < there && to > 0; m++) {
                    due("load " + m, m == to ? 6 : 0, x.load(m, 0));
                }
            }
            x.machine(1);
        }
    }

    @Sentence(promise = 4, says = "a port (-2 for port 0, -3 for 1, ..)")
    private static void joinedToAPort() {
        ShareSolve x = new ShareSolve(1);
        x.machine(1);
        x.feed(0, 0, 6);
        for (int there = 0; there <= 3; there++) {
            for (int p = 0; p <= 4; p++) {
                due("port " + p + " of " + there, p < there ? 1 : 0, x.joinOut(0, 0, -2 - p) ? 1 : 0);
                x.solve();
                for (int q = 0; q < there; q++) {
                    due("what comes to " + q, q == Math.min(p, there - 1) ? 6 : 0, x.out(q, 0, 0));
                }
            }
            x.port();
        }
    }

    @Sentence(promise = 4, says = "or nothing (-1)")
    private static void joinedToNothing() {
        ShareSolve x = Lines.fan(1, 1);
        x.feed(0, 0, 6);
        x.solve();
        due("joined to port 0", 6, x.out(0, 0, 0));
        yes("to nothing", x.joinOut(0, 0, -1));
        due("solve", 0, x.solve());
        for (int p = 0; p < 3; p++) {
            due("nothing comes", 0, x.out(p, 0, 0));
        }
        yes("back to the port", x.joinOut(0, 0, -2));
        x.solve();
        due("all comes", 6, x.out(0, 0, 0));
        yes("to itself", x.joinOut(0, 0, 0));
        due("it keeps all", 1, x.solve());
        yes("to nothing", x.joinOut(0, 0, -1));
        due("it stands", 0, x.solve());
    }

    @Sentence(promise = 4, says = "false when there are none such")
    private static void joinOutOfNone() {
        ShareSolve x = Lines.fan(1, 2);
        x.machine(1);
        for (int machine = -2; machine <= 4; machine++) {
            for (int out = -2; out <= 4; out++) {
                boolean there = machine == 0 && (out == 0 || out == 1) || machine == 1 && out == 0;
                due("joinOut(" + machine + ", " + out + ", -1)", there ? 1 : 0,
                        x.joinOut(machine, out, -1) ? 1 : 0);
            }
        }
        for (int far : FAR) {
            no("machine " + far, x.joinOut(far, 0, -1));
            no("out " + far, x.joinOut(0, far, -1));
        }
    }

    @Sentence(promise = 4, says = "false when there are none such")
    private static void joinOutToNone() {
        ShareSolve x = new ShareSolve(1);
        x.machine(1);
        x.machine(1);
        x.port();
        x.joinOut(0, 0, 1);
        x.joinOut(1, 0, -2);
        x.feed(0, 0, 5);
        for (int to : new int[] {2, 3, -3, -4, -5, Integer.MIN_VALUE, Integer.MIN_VALUE + 1,
            Integer.MAX_VALUE, Integer.MAX_VALUE - 1}) {
            no("joinOut to " + to, x.joinOut(0, 0, to));
        }
        x.solve();
        due("so it is joined as before", 5, x.load(1, 0));
        yes("to machine 0", x.joinOut(1, 0, 0));
        yes("to machine 1", x.joinOut(1, 0, 1));
        yes("to port 0", x.joinOut(0, 0, -2));
        yes("to nothing", x.joinOut(1, 0, -1));
        x.solve();
        due("now to the port", 5, x.out(0, 0, 0));
    }

    @Sentence(promise = 5, says = "A share becomes another one.")
    private static void shareBecomesAnother() {
        ShareSolve x = Lines.fan(1, 3);
        x.feed(0, 0, 120);
        yes("1 / 1", x.share(0, 0, 0, 1, 1));
        yes("1 / 2 in its stead, though both were more than 1", x.share(0, 0, 0, 1, 2));
        yes("1 / 2 by the other", x.share(0, 0, 1, 1, 2));
        yes("1 / 2 again", x.share(0, 0, 0, 6, 12));
        x.solve();
        due("out 0", 60, x.out(0, 0, 0));
        due("out 1", 60, x.out(1, 0, 0));
        due("the last", 0, x.out(2, 0, 0));
        yes("0 / 12", x.share(0, 0, 0, 0, 12));
        x.solve();
        due("out 0", 0, x.out(0, 0, 0));
        due("out 1", 60, x.out(1, 0, 0));
        due("the last", 60, x.out(2, 0, 0));
    }

    @Sentence(promise = 5, says = "false when there are none such")
    private static void shareOfNone() {
        ShareSolve x = Lines.fan(2, 3);
        x.machine(2);
        for (int machine = -1; machine <= 3; machine++) {
            for (int kind = -1; kind <= 3; kind++) {
                for (int out = -1; out <= 3; out++) {
                    boolean there = (kind == 0 || kind == 1)
                            && (machine == 0 && (out == 0 || out == 1) || machine == 1 && out == 0);
                    due("share(" + machine + ", " + kind + ", " + out + ")", there ? 1 : 0,
                            x.share(machine, kind, out, 1, 2) ? 1 : 0);
                }
            }
        }
        for (int far : FAR) {
            no("machine " + far, x.share(far, 0, 0, 0, 1));
            no("kind " + far, x.share(0, far, 0, 0, 1));
            no("out " + far, x.share(0, 0, far, 0, 1));
        }
    }

    @Sentence(promise = 5, says = "out is the last one")
    private static void shareOfTheLast() {
        for (int outs = 1; outs <= 3; outs++) {
            ShareSolve x = Lines.fan(1, outs);
            x.feed(0, 0, 12);
            no("the last, 0", x.share(0, 0, outs - 1, 0, 1));
            no("the last, 1", x.share(0, 0, outs - 1, 1, 1));
            no("the one after it", x.share(0, 0, outs, 0, 1));
            if (outs > 1) {
                yes("the one before it", x.share(0, 0, outs - 2, 1, 12));
            }
            x.solve();
            due("the last has the rest", outs > 1 ? 11 : 12, x.out(outs - 1, 0, 0));
        }
    }

    @Sentence(promise = 5, says = "it is no share")
    private static void noShare() {
        ShareSolve x = Lines.fan(1, 2);
        x.feed(0, 0, 24);
        yes("5 / 12", x.share(0, 0, 0, 5, 12));
        no("below 0", x.share(0, 0, 0, 0, 0));
        no("below -1", x.share(0, 0, 0, 0, -1));
        no("below 13", x.share(0, 0, 0, 1, 13));
        no("above -1", x.share(0, 0, 0, -1, 12));
        no("above 13", x.share(0, 0, 0, 13, 12));
        no("above 2 of 1", x.share(0, 0, 0, 2, 1));
        x.solve();
        due("it stays", 10, x.out(0, 0, 0));
        yes("below 12, above 12", x.share(0, 0, 0, 12, 12));
        x.solve();
        due("all", 24, x.out(0, 0, 0));
        yes("below 1, above 0", x.share(0, 0, 0, 0, 1));
        x.solve();
        due("none", 0, x.out(0, 0, 0));
        yes("below 1, above 1", x.share(0, 0, 0, 1, 1));
        yes("below 12, above 0", x.share(0, 0, 0, 0, 12));
    }

    @Sentence(promise = 5, says = "or those of the machine and kind would be more than 1")
    private static void sharesMoreThanOne() {
        ShareSolve x = Lines.fan(2, 3);
        x.feed(0, 0, 132);
        yes("10 / 11", x.share(0, 0, 0, 10, 11));
        yes("1 / 12 beside it is 131 / 132", x.share(0, 0, 1, 1, 12));
        yes("1 / 11 is 1", x.share(0, 0, 1, 1, 11));
        no("1 / 10 is more", x.share(0, 0, 1, 1, 10));
        no("11 / 12 beside 1 / 11 is 133 / 132", x.share(0, 0, 0, 11, 12));
        no("and so is 12 / 12", x.share(0, 0, 0, 12, 12));
        x.solve();
        due("out 0", 120, x.out(0, 0, 0));
        due("out 1", 12, x.out(1, 0, 0));
        due("the last", 0, x.out(2, 0, 0));
        yes("another kind has room yet", x.share(0, 1, 0, 11, 12));
        yes("less by out 0", x.share(0, 0, 0, 9, 10));
        yes("so 1 / 10 goes", x.share(0, 0, 1, 1, 10));
        ShareSolve y = Lines.fan(1, 2);
        yes("alone it is never more: 12 / 12", y.share(0, 0, 0, 12, 12));
        yes("and again", y.share(0, 0, 0, 12, 12));
    }

    @Sentence(promise = 6, says = "In a machine a share of a kind becomes another one")
    private static void crushInOneMachine() {
        ShareSolve x = new ShareSolve(2);
        x.machine(1);
        x.machine(1);
        x.port();
        x.port();
        x.joinOut(0, 0, -2);
        x.joinOut(1, 0, -3);
        for (int m = 0; m < 2; m++) {
            x.feed(m, 0, 12);
            x.feed(m, 1, 24);
        }
        yes("a twelfth, in machine 1", x.crush(1, 1, 0, 1, 12));
        x.solve();
        due("machine 0, kind 0", 12, x.out(0, 0, 0));
        due("machine 0, kind 1", 24, x.out(0, 1, 0));
        due("machine 1, kind 0", 14, x.out(1, 0, 0));
        due("machine 1, kind 1", 22, x.out(1, 1, 0));
        yes("none", x.crush(1, 1, 0, 0, 12));
        x.solve();
        due("none, kind 0", 12, x.out(1, 0, 0));
        yes("all", x.crush(1, 1, 0, 12, 12));
        x.solve();
        due("all, kind 0", 36, x.out(1, 0, 0));
        due("all, kind 1", 0, x.out(1, 1, 0));
    }

    @Sentence(promise = 6, says = "(in the stead of what it became before)")
    private static void crushInTheStead() {
        ShareSolve x = Lines.fan(3, 1);
        x.feed(0, 0, 24);
        yes("all becomes 1", x.crush(0, 0, 1, 1, 1));
        yes("all becomes 2, though both were more than 1", x.crush(0, 0, 2, 1, 1));
        x.solve();
        due("kind 1", 0, x.out(0, 1, 0));
        due("kind 2", 24, x.out(0, 2, 0));
        yes("a twelfth becomes 1", x.crush(0, 0, 1, 1, 12));
        x.solve();
        due("kind 0", 22, x.out(0, 0, 0));
        due("kind 1", 2, x.out(0, 1, 0));
        due("nothing becomes 2 any more", 0, x.out(0, 2, 0));
        yes("nothing becomes 2", x.crush(0, 0, 2, 0, 1));
        x.solve();
        due("nor 1, then", 0, x.out(0, 1, 0));
        due("all stays 0", 24, x.out(0, 0, 0));
        yes("of kind 1", x.crush(0, 1, 0, 1, 1));
        yes("and of kind 0", x.crush(0, 0, 1, 1, 2));
        x.solve();
        due("each kind has its own", 12, x.out(0, 1, 0));
    }

    @Sentence(promise = 6, says = "false when there are none such")
    private static void crushOfNone() {
        for (int kinds = 1; kinds <= 3; kinds++) {
            ShareSolve x = Lines.fan(kinds, 1);
            for (int machine = -1; machine <= 1; machine++) {
                for (int from = -1; from <= 3; from++) {
                    for (int to = -1; to <= 3; to++) {
                        boolean there = machine == 0 && from >= 0 && from < kinds && to >= 0 && to < kinds;
                        due("crush(" + machine + ", " + from + ", " + to + ") of " + kinds,
                                there && from != to ? 1 : 0, x.crush(machine, from, to, 1, 2) ? 1 : 0);
                    }
                }
            }
            for (int far : FAR) {
                no("machine " + far, x.crush(far, 0, 1, 1, 2));
                no("from " + far, x.crush(0, far, 0, 1, 2));
                no("to " + far, x.crush(0, 0, far, 1, 2));
            }
        }
    }

    @Sentence(promise = 6, says = "both are the same")
    private static void crushToTheSame() {
        ShareSolve x = Lines.fan(3, 1);
        x.feed(0, 1, 24);
        yes("half of 1 becomes 2", x.crush(0, 1, 2, 1, 2));
        for (int kind = 0; kind < 3; kind++) {
            no("the same", x.crush(0, kind, kind, 1, 3));
            no("the same, none of it", x.crush(0, kind, kind, 0, 1));
            yes("the next", x.crush(0, kind, (kind + 1) % 3, kind == 1 ? 1 : 0, 2));
        }
        x.solve();
        due("as told by the last that was not refused", 12, x.out(0, 2, 0));
        due("and the rest", 12, x.out(0, 1, 0));
    }

    @Sentence(promise = 6, says = "or it is no share")
    private static void crushByNoShare() {
        ShareSolve x = Lines.fan(2, 1);
        x.feed(0, 0, 24);
        yes("5 / 12", x.crush(0, 0, 1, 5, 12));
        no("below 0", x.crush(0, 0, 1, 0, 0));
        no("below -1", x.crush(0, 0, 1, 0, -1));
        no("below 13", x.crush(0, 0, 1, 1, 13));
        no("above -1", x.crush(0, 0, 1, -1, 12));
        no("above 13", x.crush(0, 0, 1, 13, 12));
        no("above 2 of 1", x.crush(0, 0, 1, 2, 1));
        x.solve();
        due("it stays", 10, x.out(0, 1, 0));
        yes("1 / 1", x.crush(0, 0, 1, 1, 1));
        yes("12 / 12", x.crush(0, 0, 1, 12, 12));
        x.solve();
        due("all", 24, x.out(0, 1, 0));
        yes("0 / 1", x.crush(0, 0, 1, 0, 1));
        x.solve();
        due("none", 0, x.out(0, 1, 0));
        yes("0 / 12", x.crush(0, 0, 1, 0, 12));
    }

    @Sentence(promise = 7, says = "A feed becomes so many grams, 0 .. 1000000.")
    private static void feedInGrams() {
        ShareSolve x = Lines.fan(1, 1);
        long[] grams = {1, 0, 1000000, -1, 1000001, 999999, Long.MIN_VALUE, Long.MAX_VALUE, 2,
            1L << 32, (1L << 32) + 7, -(1L << 32), 1000000};
        long fed = 0;
        for (long each : grams) {
            boolean right = each >= 0 && each <= 1000000;
            due("feed " + each, right ? 1 : 0, x.feed(0, 0, each) ? 1 : 0);
            fed = right ? each : fed;
            x.solve();
            due("load by it", fed, x.load(0, 0));
            due("what comes by it", fed, x.out(0, 0, 0));
        }
    }

    @Sentence(promise = 7, says = "A feed becomes so many grams, 0 .. 1000000.")
    private static void feedOfEach() {
        ShareSolve x = new ShareSolve(3);
        for (int m = 0; m < 3; m++) {
            x.machine(1);
            x.port();
            x.joinOut(m, 0, -2 - m);
        }
        for (int m = 0; m < 3; m++) {
            for (int kind = 0; kind < 3; kind++) {
                yes("all that goes", x.feed(m, kind, 1000000));
            }
        }
        x.solve();
        for (int m = 0; m < 3; m++) {
            due("load", 3000000, x.load(m, 0));
        }
        x.feed(1, 2, 0);
        x.solve();
        for (int m = 0; m < 3; m++) {
            for (int kind = 0; kind < 3; kind++) {
                due("each has its own", m == 1 && kind == 2 ? 0 : 1000000, x.out(m, kind, 0));
            }
        }
    }

    @Sentence(promise = 7, says = "false when there are none such")
    private static void feedOfNone() {
        ShareSolve x = new ShareSolve(2);
        x.machine(1);
        x.machine(1);
        for (int machine = -2; machine <= 4; machine++) {
            for (int kind = -2; kind <= 4; kind++) {
                boolean there = (machine == 0 || machine == 1) && (kind == 0 || kind == 1);
                due("feed(" + machine + ", " + kind + ")", there ? 1 : 0,
                        x.feed(machine, kind, 0) ? 1 : 0);
            }
        }
        for (int far : FAR) {
            no("machine " + far, x.feed(far, 0, 1));
            no("kind " + far, x.feed(0, far, 1));
        }
    }

    @Sentence(promise = 11, says = "(0 .. 1000000000, low at most high)")
    private static void spanBounds() {
        ShareSolve x = Lines.fan(1, 1);
        yes("0 .. 0", x.span(0, 0, 0));
        yes("0 .. 1000000000", x.span(0, 0, 1000000000));
        yes("1000000000 .. 1000000000", x.span(0, 1000000000, 1000000000));
        yes("999999999 .. 1000000000", x.span(0, 999999999, 1000000000));
        yes("5 .. 5", x.span(0, 5, 5));
        yes("5 .. 6", x.span(0, 5, 6));
        no("6 .. 5", x.span(0, 6, 5));
        no("1 .. 0", x.span(0, 1, 0));
        no("-1 .. 0", x.span(0, -1, 0));
        no("-1 .. -1", x.span(0, -1, -1));
        no("0 .. -1", x.span(0, 0, -1));
        no("0 .. 1000000001", x.span(0, 0, 1000000001));
        no("1000000001 .. 1000000001", x.span(0, 1000000001, 1000000001));
        no("1000000001 .. 1000000000", x.span(0, 1000000001, 1000000000));
        for (long far : new long[] {Long.MIN_VALUE, -(1L << 32), 1L << 32, (1L << 32) + 5, Long.MAX_VALUE}) {
            no("from " + far, x.span(0, far, 6));
            no("up to " + far, x.span(0, 0, far));
            no("all at " + far, x.span(0, far, far));
        }
        x.feed(0, 0, 4);
        x.solve();
        due("5 .. 6 is what stays", 0, x.over(0));
        x.feed(0, 0, 6);
        x.solve();
        due("and 6 is within", NONE, x.over(0));
    }

    @Sentence(promise = 11, says = "A machine's load should be from low up to high")
    private static void spanOfALoad() {
        ShareSolve x = Lines.fan(1, 1);
        x.span(0, 10, 20);
        for (int grams = 8; grams <= 22; grams++) {
            x.feed(0, 0, grams);
            x.solve();
            due("a load of " + grams, grams < 10 || grams > 20 ? 0 : NONE, x.over(0));
        }
        x.span(0, 22, 22);
        due("a span in its stead", NONE, x.over(0));
        x.span(0, 23, 23);
        due("and another", 0, x.over(0));
    }

    @Sentence(promise = 11, says = "A machine's load should be from low up to high")
    private static void spanAtItsWidest() {
        ShareSolve x = new ShareSolve(1);
        for (int m = 0; m < 3; m++) {
            x.machine(2);
        }
        for (int m = 0; m < 3; m++) {
            x.joinOut(m, 0, 0);
            x.joinOut(m, 1, m == 2 ? -1 : m + 1);
            x.share(m, 0, 0, 9, 10);
        }
        x.feed(0, 0, 1000000);
        x.solve();
        due("load 0", 1000000000, x.load(0, 0));
        x.span(0, 0, 1000000000);
        due("just within", NONE, x.over(0));
        x.span(0, 1000000000, 1000000000);
        due("just within this, too", NONE, x.over(0));
        x.span(0, 0, 999999999);
        due("just beyond this", 0, x.over(0));
        x.feed(2, 0, 1);
        x.span(0, 0, 1000000000);
        x.solve();
        due("load 0", 1000000900, x.load(0, 0));
        due("beyond the widest", 0, x.over(0));
    }

    @Sentence(promise = 11, says = "Answers true, or false.")
    private static void spanOfNone() {
        ShareSolve x = new ShareSolve(1);
        for (int there = 0; there <= 3; there++) {
            for (int machine = -2; machine <= 4; machine++) {
                due("span of machine " + machine + " of " + there, machine >= 0 && machine < there ? 1 : 0,
                        x.span(machine, 1, 2) ? 1 : 0);
            }
            for (int far : FAR) {
                no("machine " + far, x.span(far, 1, 2));
            }
            x.machine(1);
        }
        x.solve();
        for (int k = 0; k <= 3; k++) {
            due("each that was told has one", k < 3 ? k : NONE, x.over(k));
        }
    }
}
