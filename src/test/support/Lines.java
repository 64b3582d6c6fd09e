import java.util.Arrays;

/** Lines that several tests begin with. */
final class Lines {
    static final int NONE = ShareSolve.NONE;

    private Lines() {
    }

    /** Machine 0 with some outs and three ports, out n joined to port n. */
    static ShareSolve fan(int kinds, int outs) {
        ShareSolve x = new ShareSolve(kinds);
        x.machine(outs);
        for (int n = 0; n < 3; n++) {
            x.port();
        }
        for (int n = 0; n < outs; n++) {
            x.joinOut(0, n, -2 - n);
        }
        return x;
    }

    /** One kind, machine 0: out 0 comes back, out 1 goes to port 0, out 2, the last, is lost. */
    static ShareSolve loop() {
        ShareSolve x = new ShareSolve(1);
        x.machine(3);
        x.port();
        x.joinOut(0, 0, 0);
        x.joinOut(0, 1, -2);
        return x;
    }

    /** One kind, machine 0: out 0 comes back, the last goes to port 0. */
    static ShareSolve back() {
        ShareSolve x = new ShareSolve(1);
        x.machine(2);
        x.port();
        x.joinOut(0, 0, 0);
        x.joinOut(0, 1, -2);
        return x;
    }

    /**
     * Three machines and kinds, in which nearly all comes back again and again; with a gram put
     * into machine 0 of kind 0 its load is 762219726865354 and some.
     */
    static ShareSolve huge() {
        ShareSolve x = new ShareSolve(3);
        for (int m = 0; m < 3; m++) {
            x.machine(3);
        }
        x.port();
        for (int m = 0; m < 3; m++) {
            x.joinOut(m, 0, 0);
            x.joinOut(m, 1, 0);
            x.joinOut(m, 2, m == 2 ? -2 : m + 1);
            for (int k = 0; k < 3; k++) {
                x.share(m, k, 0, 10, 11);
                x.share(m, k, 1, 1, m == 2 && k < 2 ? 11 : 12);
            }
            x.crush(m, 0, 1, m == 2 ? 1 : 0, 12);
            x.crush(m, 1, m == 2 ? 2 : 0, m == 2 ? 1 : 11, 12);
            x.crush(m, 2, 0, 11, 12);
        }
        return x;
    }

    /** As huge(), but what out 0 of machine 0 has, a share of 0, goes elsewhere than the last. */
    static ShareSolve steep(boolean falls) {
        ShareSolve x = huge();
        for (int k = 0; k < 3; k++) {
            x.share(0, k, 0, 0, 1);
            x.share(0, k, 1, 11, 12);
        }
        x.joinOut(0, 0, falls ? -1 : -2);
        x.joinOut(2, 2, falls ? -2 : -1);
        return x;
    }

    /**
     * Three machines in a row, each of which passes on a twelfth, crushed, of a 132nd: of each
     * gram put into machine 0 of kind 0 1 / 1584^3 comes to port 0 as kind 1.
     */
    static ShareSolve tiny() {
        ShareSolve x = new ShareSolve(2);
        for (int m = 0; m < 3; m++) {
            x.machine(3);
        }
        x.port();
        for (int m = 0; m < 3; m++) {
            int from = m % 2;
            x.joinOut(m, 2, m == 2 ? -2 : m + 1);
            x.crush(m, from, 1 - from, 1, 12);
            x.share(m, from, 0, 1, 1);
            x.share(m, 1 - from, 0, 10, 11);
            x.share(m, 1 - from, 1, 1, 12);
        }
        return x;
    }

    /** Two machines and ports, so that there is room for more; all is told, and solved. */
    static ShareSolve rich() {
        ShareSolve x = new ShareSolve(3);
        x.machine(3);
        x.machine(2);
        x.port();
        x.port();
        x.joinOut(0, 0, 1);
        x.joinOut(0, 1, -2);
        x.joinOut(0, 2, 0);
        x.joinOut(1, 0, 0);
        x.joinOut(1, 1, -3);
        for (int k = 0; k < 3; k++) {
            x.share(0, k, 0, 1 + k, 7);
            x.share(0, k, 1, 1, 5 + k);
            x.share(1, k, 0, 2 + k, 9);
            x.feed(0, k, 100 + 11 * k);
            x.feed(1, k, 70 - 13 * k);
        }
        x.crush(0, 0, 1, 1, 3);
        x.crush(1, 2, 0, 3, 8);
        x.span(0, 1, 2);
        x.span(1, 0, 1000000);
        x.solve();
        return x;
    }

    /** rich() with no room left for machines and ports. */
    static ShareSolve full() {
        ShareSolve x = rich();
        x.machine(1);
        x.port();
        x.solve();
        return x;
    }

    /** What was solved, as far as it can be asked. */
    static long[] known(ShareSolve x) {
        long[] answers = new long[3 * 3 * 3 + 3 * 2];
        int at = 0;
        for (int n = 0; n < 3; n++) {
            for (int k = 0; k < 3; k++) {
                answers[at++] = x.out(n, k, 0);
                answers[at++] = x.out(n, k, 1);
                answers[at++] = x.purity(n, k, 1);
            }
            answers[at++] = x.load(n, 0);
            answers[at++] = x.load(n, 1);
        }
        return answers;
    }

    /** How all is now, as far as it can be asked without a change; at most 160 calls. */
    static long[] state(ShareSolve x) {
        long[] solved = known(x);
        long[] answers = Arrays.copyOf(solved, solved.length + 1 + 4 + 54);
        int at = solved.length;
        answers[at++] = x.kept() ? 1 : 0;
        for (int k = 0; k < 4; k++) {
            answers[at++] = x.over(k);
        }
        for (int m = 0; m < 3; m++) {
            for (int k = 0; k < 3; k++) {
                for (int p = 0; p < 3; p++) {
                    answers[at++] = x.slope(m, k, 0, p, 0);
                    answers[at++] = x.slope(m, k, 1, p, 1);
                }
            }
        }
        return answers;
    }
}
