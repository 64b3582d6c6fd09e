import java.util.Arrays;
import java.util.function.Consumer;

/** The boundary cases of change(), find() and kept(): promises 15 to 17. */
public final class ChangingBoundaryTest extends Sentences {
    private static final int[] FAR = {Integer.MIN_VALUE, -1000, 1000, Integer.MAX_VALUE};

    public static void main(String[] args) {
        run(ChangingBoundaryTest.class, 15, 16, 17);
    }

    /** One kind, machine 0 with its outs to the ports, so many grams fed. */
    private static ShareSolve fed(int outs, long grams) {
        ShareSolve x = Lines.fan(1, outs);
        x.feed(0, 0, grams);
        return x;
    }

    @Sentence(promise = 15, says = "As share()")
    private static void changeAsShare() {
        ShareSolve changed = Lines.fan(2, 3);
        ShareSolve shared = Lines.fan(2, 3);
        long[][] fractions = {{0, 1}, {1, 1}, {2, 1}, {0, 0}, {-1, 12}, {0, 12}, {5, 12}, {12, 12}, {13, 12},
            {1, 13}, {1, 11}, {10, 11}, {1, 12}, {11, 12}, {1, 2}, {7, 12}};
        for (int out = -1; out <= 3; out++) {
            for (long[] each : fractions) {
                String call = "change of out " + out + " to " + each[0] + " / " + each[1];
                boolean want = shared.share(0, 1, out, each[0], each[1]);
                due(call, want ? 1 : 0, changed.change(0, 1, out, each[0], each[1]) ? 1 : 0);
            }
        }
        changed.feed(0, 1, 132);
        shared.feed(0, 1, 132);
        changed.solve();
        shared.solve();
        for (int p = 0; p < 3; p++) {
            due("what comes to port " + p, shared.out(p, 1, 0), changed.out(p, 1, 0));
        }
        due("out 0 has the last of all", 77, changed.out(0, 1, 0));
        due("out 1 has 1 / 12, the last that went beside 7 / 12", 11, changed.out(1, 1, 0));
    }

    @Sentence(promise = 15, says = "As share()")
    private static void changeOfNone() {
        ShareSolve x = Lines.fan(2, 3);
        x.machine(2);
        for (int machine = -1; machine <= 3; machine++) {
            for (int kind = -1; kind <= 3; kind++) {
                for (int out = -1; out <= 3; out++) {
                    boolean there = (kind == 0 || kind == 1)
                            && (machine == 0 && (out == 0 || out == 1) || machine == 1 && out == 0);
                    due("change(" + machine + ", " + kind + ", " + out + ")", there ? 1 : 0,
                            x.change(machine, kind, out, 1, 2) ? 1 : 0);
                }
            }
        }
        for (int far : FAR) {
            no("machine " + far, x.change(far, 0, 0, 0, 1));
            no("kind " + far, x.change(0, far, 0, 0, 1));
            no("out " + far, x.change(0, 0, far, 0, 1));
        }
    }

    @Sentence(promise = 15, says = "and then, if it was not refused, as solve()")
    private static void changeSolves() {
        ShareSolve x = fed(3, 120);
        due("not solved", NONE, x.load(0, 0));
        no("the last", x.change(0, 0, 2, 1, 2));
        due("refused, so not solved", NONE, x.load(0, 0));
        no("nor kept", x.kept());
        yes("1 / 2", x.change(0, 0, 0, 1, 2));
        due("solved", 60, x.out(0, 0, 0));
        yes("kept", x.kept());
        x.feed(0, 0, 240);
        no("more than 1", x.share(0, 0, 1, 7, 12));
        no("more than 1", x.change(0, 0, 1, 7, 12));
        no("no share", x.change(0, 0, 1, 1, 13));
        no("none such", x.change(1, 0, 0, 1, 2));
        due("refused, so what was solved stays", 60, x.out(0, 0, 0));
        no("and it is not kept", x.kept());
        yes("6 / 12 beside it", x.change(0, 0, 1, 6, 12));
        due("solved, out 0", 120, x.out(0, 0, 0));
        due("solved, out 1", 120, x.out(1, 0, 0));
        due("solved, the last", 0, x.out(2, 0, 0));
        x.feed(0, 0, 12);
        yes("the same share again", x.change(0, 0, 1, 1, 2));
        due("is solved, too", 6, x.out(1, 0, 0));
    }

    @Sentence(promise = 15, says = "and then, if it was not refused, as solve()")
    private static void changeToWhatKeepsAll() {
        ShareSolve x = Lines.back();
        x.feed(0, 0, 12);
        yes("11 / 12 come back", x.change(0, 0, 0, 11, 12));
        due("load", 144, x.load(0, 0));
        yes("kept", x.kept());
        yes("all comes back", x.change(0, 0, 0, 12, 12));
        due("nothing is known", NONE, x.load(0, 0));
        due("nor there", NONE, x.out(0, 0, 0));
        no("kept", x.kept());
        due("the share became it", 1, x.solve());
        no("a refused one", x.change(0, 0, 0, 13, 12));
        due("nothing is known", NONE, x.load(0, 0));
        yes("3 / 4", x.change(0, 0, 0, 3, 4));
        due("known again", 48, x.load(0, 0));
    }

    @Sentence(promise = 15, says = "Answers what share() did.")
    private static void changeAnswers() {
        ShareSolve x = Lines.back();
        yes("it stands", x.change(0, 0, 0, 1, 2));
        yes("it does not stand, but the share was none to refuse", x.change(0, 0, 0, 1, 1));
        yes("and again", x.change(0, 0, 0, 1, 1));
        no("refused", x.change(0, 0, 1, 1, 1));
        no("refused, while it does not stand", x.change(0, 0, 0, 1, 0));
        yes("it stands again", x.change(0, 0, 0, 0, 1));
        no("refused, while it stands", x.change(0, 0, 0, 1, 0));
    }

    @Sentence(promise = 16, says = "The least t of 0 .. 12")
    private static void leastTwelfths() {
        ShareSolve x = fed(2, 1200);
        for (int t = 0; t <= 12; t++) {
            due("just " + t + " twelfths", t, x.find(0, 0, 100 * t));
            due("of which all come", 100 * t, x.out(0, 0, 0));
            if (t > 0) {
                due("a gram less takes as many", t, x.find(0, 0, 100 * t - 1));
            }
            due("a gram more takes one more", t < 12 ? t + 1 : NONE, x.find(0, 0, 100 * t + 1));
        }
    }

    @Sentence(promise = 16, says = "The least t of 0 .. 12")
    private static void leastWhenMoreWouldDoAsWell() {
        ShareSolve x = Lines.back();
        x.feed(0, 0, 60);
        x.share(0, 0, 0, 5, 12);
        due("whatever comes back, all comes to port 0", 0, x.find(0, 0, 60));
        due("load", 60, x.load(0, 0));
        due("a gram more never", NONE, x.find(0, 0, 61));
        ShareSolve y = fed(2, 60);
        y.joinOut(0, 0, -3);
        y.joinOut(0, 1, -2);
        due("the more by out 0, the less: 0 does", 0, y.find(0, 0, 60));
        y.share(0, 0, 0, 1, 2);
        due("and again", 0, y.find(0, 0, 1));
        due("all comes", 60, y.out(0, 0, 0));
    }

    @Sentence(promise = 16,
            says = "with t / 12 as the share of a machine, a kind and its out 0 (which becomes it)")
    private static void theShareBecomesIt() {
        ShareSolve x = fed(3, 1200);
        x.share(0, 0, 0, 1, 7);
        due("find", 5, x.find(0, 0, 401));
        yes("7 / 12 are left", x.share(0, 0, 1, 7, 12));
        no("and no more", x.share(0, 0, 1, 3, 5));
        x.solve();
        due("out 0", 500, x.out(0, 0, 0));
        due("out 1", 700, x.out(1, 0, 0));
        due("the last", 0, x.out(2, 0, 0));
        x.share(0, 0, 1, 0, 1);
        due("find none", 0, x.find(0, 0, 0));
        yes("all is left", x.share(0, 0, 1, 1, 1));
    }

    @Sentence(promise = 16,
            says = "with t / 12 as the share of a machine, a kind and its out 0 (which becomes it)")
    private static void theShareOfThatKindAlone() {
        ShareSolve x = new ShareSolve(2);
        x.machine(2);
        x.machine(2);
        x.port();
        for (int m = 0; m < 2; m++) {
            x.joinOut(m, 0, -2);
            for (int kind = 0; kind < 2; kind++) {
                x.feed(m, kind, 1200);
                x.share(m, kind, 0, 1, 4);
            }
        }
        due("find for machine 1 and kind 1", 9, x.find(1, 1, 1200));
        due("kind 1", 1200, x.out(0, 1, 0));
        due("kind 0 as before", 600, x.out(0, 0, 0));
        due("find for machine 0 and kind 0", 7, x.find(0, 0, 1000));
        due("kind 0", 1000, x.out(0, 0, 0));
        due("kind 1 as before", 1200, x.out(0, 1, 0));
    }

    @Sentence(promise = 16, says = "it stands and at least so many grams")
    private static void itMustStand() {
        ShareSolve x = new ShareSolve(1);
        x.machine(2);
        x.port();
        x.joinOut(0, 0, -2);
        x.joinOut(0, 1, 0);
        x.feed(0, 0, 60);
        due("with 0 it would keep all", 1, x.find(0, 0, 0));
        due("load", 720, x.load(0, 0));
        due("and all comes", 1, x.find(0, 0, 60));
        x.joinOut(0, 0, 0);
        due("with any it keeps all", NONE, x.find(0, 0, 0));
        x.joinOut(0, 1, -2);
        due("with 12 only", 0, x.find(0, 0, 60));
        x.machine(1);
        x.joinOut(1, 0, 1);
        due("another machine keeps all", NONE, x.find(0, 0, 0));
        x.joinOut(1, 0, -1);
        due("and no more", 0, x.find(0, 0, 0));
    }

    @Sentence(promise = 16, says = "at least so many grams (0 .. 1000000000) of the kind come to port 0")
    private static void atLeastSoManyGrams() {
        ShareSolve x = new ShareSolve(1);
        x.machine(2);
        x.machine(3);
        x.port();
        x.joinOut(0, 0, 1);
        for (int out = 0; out < 3; out++) {
            x.joinOut(1, out, -2);
        }
        x.share(1, 0, 0, 10, 11);
        x.share(1, 0, 1, 1, 12);
        x.feed(0, 0, 12);
        due("just 5 grams by 5 twelfths", 5, x.find(0, 0, 5));
        x.joinOut(1, 2, -1);
        due("a little less by 5, so 6", 6, x.find(0, 0, 5));
        due("5 and 126 / 132", 954545454, x.out(0, 0, 1));
        due("a little less than 12 by 12", NONE, x.find(0, 0, 12));
        x.feed(1, 0, 1);
        due("a gram more, put in behind it", 12, x.find(0, 0, 12));
    }

    @Sentence(promise = 16, says = "at least so many grams (0 .. 1000000000) of the kind come to port 0")
    private static void atLeastWithinATinyBit() {
        ShareSolve x = Lines.tiny();
        // 1 / 1584^2 of each gram comes to machine 2 as kind 0, and 1 / 1584^3 to port 0 as kind 1
        x.feed(0, 0, 1);
        due("some 10^-10 grams of kind 1 are no gram", NONE, x.find(2, 1, 1));
        due("but at least none", 0, x.find(2, 1, 0));
        x.joinOut(2, 0, -2);
        x.feed(2, 1, 12);
        x.share(2, 1, 1, 0, 1);
        x.joinOut(2, 2, -1);
        due("12 and a bit by 12", 12, x.find(2, 1, 12));
        due("12 and a bit", 12, x.out(0, 1, 0));
        due("never 13", NONE, x.find(2, 1, 13));
        x.feed(0, 0, 0);
        due("just 12", 12, x.find(2, 1, 12));
        due("no bit more", 0, x.out(0, 1, 1));
        due("so 11 of 12 for 11", 11, x.find(2, 1, 11));
    }

    @Sentence(promise = 16, says = "at least so many grams (0 .. 1000000000) of the kind come to port 0")
    private static void gramsToFind() {
        ShareSolve x = fed(2, 1000000);
        long[] grams = {0, -1, 1, 1000000, 1000001, 1000000000, 1000000001, Long.MIN_VALUE, Long.MAX_VALUE,
            1L << 32, (1L << 32) + 1, -(1L << 32), -(1L << 32) + 1};
        int[] wants = {0, NONE, 1, 12, NONE, NONE, NONE, NONE, NONE, NONE, NONE, NONE, NONE};
        for (int n = 0; n < grams.length; n++) {
            due("find " + grams[n], wants[n], x.find(0, 0, grams[n]));
        }
        due("solved by the last that was found", 1000000, x.out(0, 0, 0));
        yes("and kept", x.kept());
        x.feed(0, 0, 0);
        due("nothing comes, and none is to come", 0, x.find(0, 0, 0));
        due("nothing comes, and -1 is no such number", NONE, x.find(0, 0, -1));
    }

    @Sentence(promise = 16, says = "of the kind come to port 0")
    private static void ofTheKindToPortZero() {
        ShareSolve x = Lines.fan(2, 2);
        x.feed(0, 0, 1000000);
        x.feed(0, 1, 1200);
        x.share(0, 0, 0, 1, 1);
        due("only the kind counts", 4, x.find(0, 1, 400));
        due("and no more than there is of it", NONE, x.find(0, 1, 1201));
        x.joinOut(0, 0, -3);
        x.joinOut(0, 1, -1);
        due("only port 0 counts", NONE, x.find(0, 1, 1));
        due("for 0 grams none need come", 0, x.find(0, 1, 0));
        x.joinOut(0, 0, -2);
        x.crush(0, 0, 1, 1, 2);
        due("what became the kind counts", 6, x.find(0, 1, 250600));
        x.crush(0, 1, 0, 1, 1);
        due("what became another does not", 12, x.find(0, 1, 500000));
        due("not a gram of it", NONE, x.find(0, 1, 500001));
    }

    @Sentence(promise = 16, says = "all is solved so then")
    private static void allIsSolvedThen() {
        ShareSolve x = fed(2, 120);
        x.solve();
        x.feed(0, 0, 240);
        x.machine(1);
        x.feed(1, 0, 8);
        due("before", 120, x.load(0, 0));
        no("not kept", x.kept());
        due("find", 3, x.find(0, 0, 50));
        due("load", 240, x.load(0, 0));
        due("load of the new machine", 8, x.load(1, 0));
        due("out", 60, x.out(0, 0, 0));
        due("the rest", 180, x.out(1, 0, 0));
        yes("kept", x.kept());
        due("solve finds nothing else", 0, x.solve());
        due("out", 60, x.out(0, 0, 0));
    }

    @Sentence(promise = 16, says = "NONE when there are none such")
    private static void findOfNone() {
        ShareSolve x = Lines.fan(2, 2);
        x.machine(3);
        for (int machine = -2; machine <= 4; machine++) {
            for (int kind = -2; kind <= 4; kind++) {
                boolean there = (machine == 0 || machine == 1) && (kind == 0 || kind == 1);
                due("find(" + machine + ", " + kind + ", 0)", there ? 0 : NONE, x.find(machine, kind, 0));
            }
        }
        for (int far : FAR) {
            due("machine " + far, NONE, x.find(far, 0, 0));
            due("kind " + far, NONE, x.find(0, far, 0));
        }
    }

    @Sentence(promise = 16, says = "the machine has but one out")
    private static void findByOneOut() {
        for (int outs = 1; outs <= 3; outs++) {
            ShareSolve x = fed(outs, 12);
            due("find by outs: " + outs, outs == 1 ? NONE : 0, x.find(0, 0, 0));
            due("12 grams by outs: " + outs, outs == 1 ? NONE : 12, x.find(0, 0, 12));
            due("solved", outs == 1 ? NONE : 12, x.load(0, 0));
        }
    }

    @Sentence(promise = 16, says = "or there is no port")
    private static void findWithoutAPort() {
        ShareSolve x = new ShareSolve(1);
        x.machine(2);
        x.feed(0, 0, 12);
        due("no port", NONE, x.find(0, 0, 0));
        due("so it is not solved", NONE, x.load(0, 0));
        x.port();
        due("a port", 0, x.find(0, 0, 0));
        due("so it is solved", 12, x.load(0, 0));
        due("to which nothing comes", NONE, x.find(0, 0, 1));
    }

    @Sentence(promise = 16, says = "(a t with which shares would be more than 1 does not)")
    private static void findBesideAShare() {
        for (int beside = 0; beside <= 12; beside++) {
            ShareSolve x = fed(3, 1200);
            x.share(0, 0, 1, beside, 12);
            long most = 100 * (12 - beside);
            due("all that is left beside " + beside, 12 - beside, x.find(0, 0, most));
            due("solved", most, x.out(0, 0, 0));
            due("none for the last", 0, x.out(2, 0, 0));
            due("a gram more", NONE, x.find(0, 0, most + 1));
        }
        ShareSolve y = fed(3, 1000000);
        y.share(0, 0, 1, 1, 11);
        due("10 / 12 and 1 / 11", 10, y.find(0, 0, 833333));
        due("11 / 12 and 1 / 11 are 133 / 132", NONE, y.find(0, 0, 833334));
        y.share(0, 0, 1, 1, 12);
        due("11 / 12 and 1 / 12", 11, y.find(0, 0, 833334));
        due("12 / 12 and 1 / 12", NONE, y.find(0, 0, 916667));
    }

    @Sentence(promise = 16, says = "or when no t does")
    private static void noneDoes() {
        ShareSolve x = fed(2, 12);
        due("12 by 12", 12, x.find(0, 0, 12));
        due("13 by none", NONE, x.find(0, 0, 13));
        x.joinOut(0, 0, -1);
        due("1 by none", NONE, x.find(0, 0, 1));
        due("0 by 0", 0, x.find(0, 0, 0));
    }

    @Sentence(promise = 16, says = "then the share stays, and what was solved, too")
    private static void thenTheShareStays() {
        ShareSolve x = fed(3, 84);
        x.share(0, 0, 0, 1, 7);
        x.share(0, 0, 1, 5, 7);
        x.solve();
        due("find", NONE, x.find(0, 0, 25));
        due("what was solved", 12, x.out(0, 0, 0));
        yes("is kept", x.kept());
        x.solve();
        due("a seventh, as before", 12, x.out(0, 0, 0));
        due("exactly", 0, x.out(0, 0, 1));
        due("the rest, as before", 12, x.out(2, 0, 0));
        x.feed(0, 0, 168);
        due("find", NONE, x.find(0, 0, 49));
        due("what was solved", 12, x.out(0, 0, 0));
        no("is not kept", x.kept());
        x.solve();
        due("a seventh of it", 24, x.out(0, 0, 0));
        due("but 3 twelfths can be", 3, x.find(0, 0, 42));
        due("and then are", 42, x.out(0, 0, 0));
        due("the rest", 6, x.out(2, 0, 0));
    }

    @Sentence(promise = 16, says = "then the share stays, and what was solved, too")
    private static void nothingSolvedStaysSo() {
        ShareSolve x = Lines.back();
        x.feed(0, 0, 12);
        due("too much", NONE, x.find(0, 0, 13));
        due("nothing was solved", NONE, x.load(0, 0));
        no("nor kept", x.kept());
        x.change(0, 0, 0, 12, 12);
        due("too much", NONE, x.find(0, 0, 13));
        due("nothing is known", NONE, x.load(0, 0));
        due("the share is still 1", 1, x.solve());
        due("find", 0, x.find(0, 0, 12));
        due("now it is known", 12, x.load(0, 0));
        x.joinOut(0, 1, 0);
        due("it never stands", NONE, x.find(0, 0, 0));
        due("it is known as before", 12, x.load(0, 0));
    }

    @Sentence(promise = 17, says = "solve(), find() or change() made it stand")
    private static void keptWhenItStands() {
        ShareSolve x = Lines.back();
        no("nothing was solved", x.kept());
        x.solve();
        yes("solve() made it stand", x.kept());
        x.share(0, 0, 0, 1, 1);
        no("told", x.kept());
        x.solve();
        no("solve() did not make it stand", x.kept());
        x.find(0, 0, 0);
        yes("find() made it stand", x.kept());
        x.change(0, 0, 0, 1, 1);
        no("change() did not make it stand", x.kept());
        due("find", NONE, x.find(0, 0, 1));
        no("find() did not", x.kept());
        x.change(0, 0, 0, 11, 12);
        yes("change() made it stand", x.kept());
        x.feed(0, 0, 5);
        due("find", NONE, x.find(0, 0, 6));
        no("find() did not", x.kept());
        due("find", 0, x.find(0, 0, 5));
        yes("find() did", x.kept());
        yes("whether it is asked once or more often", x.kept());
    }

    @Sentence(promise = 17, says = "and nothing was told since that was not refused (but spans)")
    private static void keptUntilItIsTold() {
        dueNotKept("machine", x -> due("machine", 2, x.machine(1)));
        dueNotKept("port", x -> due("port", 2, x.port()));
        dueNotKept("joinOut", x -> yes("joinOut", x.joinOut(0, 0, -1)));
        dueNotKept("joinOut as before", x -> yes("joinOut", x.joinOut(0, 0, 1)));
        dueNotKept("share", x -> yes("share", x.share(0, 0, 0, 0, 1)));
        dueNotKept("share as before", x -> yes("share", x.share(0, 0, 0, 1, 7)));
        dueNotKept("crush", x -> yes("crush", x.crush(0, 0, 2, 1, 1)));
        dueNotKept("crush as before", x -> yes("crush", x.crush(0, 0, 1, 1, 3)));
        dueNotKept("feed", x -> yes("feed", x.feed(0, 0, 0)));
        dueNotKept("feed as before", x -> yes("feed", x.feed(0, 0, 100)));
    }

    private static void dueNotKept(String what, Consumer<ShareSolve> call) {
        ShareSolve x = Lines.rich();
        yes("solved", x.kept());
        call.accept(x);
        no("kept after " + what, x.kept());
        due("solve", 0, x.solve());
        yes("solved again", x.kept());
    }

    @Sentence(promise = 17, says = "and nothing was told since that was not refused (but spans)")
    private static void keptWhenRefusedOrAsked() {
        ShareSolve x = Lines.full();
        yes("solved", x.kept());
        x.machine(1);
        yes("a fourth machine", x.kept());
        x.port();
        yes("a fourth port", x.kept());
        x.joinOut(0, 3, -1);
        x.joinOut(0, 0, 3);
        yes("joinOut, refused", x.kept());
        x.share(0, 0, 2, 0, 1);
        x.share(0, 0, 0, 1, 13);
        x.share(0, 0, 0, 12, 12);
        yes("share, refused", x.kept());
        x.crush(0, 0, 0, 1, 2);
        x.crush(0, 0, 1, 3, 2);
        yes("crush, refused", x.kept());
        x.feed(0, 0, 1000001);
        x.feed(0, 3, 0);
        yes("feed, refused", x.kept());
        x.change(0, 0, 2, 0, 1);
        x.change(0, 0, 0, 12, 12);
        yes("change, refused", x.kept());
        due("find", NONE, x.find(0, 0, 1000000));
        due("find", NONE, x.find(2, 0, 0));
        yes("find that finds none", x.kept());
        Lines.state(x);
        yes("asked", x.kept());
    }

    @Sentence(promise = 17, says = "(but spans)")
    private static void keptBesideSpans() {
        ShareSolve x = Lines.rich();
        long[] before = Lines.known(x);
        yes("a span", x.span(0, 3, 4));
        yes("kept", x.kept());
        no("a span that is refused", x.span(0, 4, 3));
        yes("kept", x.kept());
        yes("what was solved stays", Arrays.equals(before, Lines.known(x)));
        x.feed(0, 0, 1);
        no("told", x.kept());
        yes("a span", x.span(1, 3, 4));
        no("does not make it kept again", x.kept());
    }

    @Sentence(promise = 17, says = "Whether all is as it was when it was solved")
    private static void keptOfNothing() {
        ShareSolve x = new ShareSolve(1);
        no("new", x.kept());
        x.solve();
        yes("nothing at all, solved", x.kept());
        due("a machine with four outs", NONE, x.machine(4));
        yes("refused", x.kept());
        x.machine(3);
        no("a machine", x.kept());
        x.solve();
        yes("solved", x.kept());
        x.feed(0, 0, 1);
        x.feed(0, 0, 0);
        no("told there and back", x.kept());
    }
}
