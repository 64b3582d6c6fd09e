import java.util.Arrays;

/**
 * Sorting lines as graphs of machines: exact shares of each kind to each out, with returns and
 * crushing, solved at once in whole numbers.
 */
public final class ShareSolve {
    public static final int NONE = -1;

    /** The most kinds, machines, outs of a machine, and ports that there can be. */
    private static final int MOST = 3;
    /** One row for each machine and kind, or for each port and kind. */
    private static final int ROWS = MOST * MOST;
    private static final int MOST_BELOW = 12;
    /** All of 1 .. 12 divide it, so every share is a whole number of such parts of 1. */
    private static final int UNIT = 27720;
    private static final int TWELFTH = UNIT / MOST_BELOW;
    /** What joinOut() is told for port 0; the ports after it are told by lesser numbers. */
    private static final int PORT_ZERO = -2;
    private static final int LAST_PART = 6;
    private static final int GROUP = 1000000000;
    private static final long MOST_FEED = 1000000L;
    private static final long MOST_GRAMS = 1000000000L;

    private final Line line;
    private final Flow flow;
    private final Solved solved;
    /** It stood when it was solved, and nothing but spans was told since. */
    private boolean untouched;

    public ShareSolve(int kinds) {
        line = new Line(kinds >= 1 && kinds <= MOST ? kinds : 1);
        flow = new Flow(line);
        solved = new Solved();
    }

    public int machine(int outs) {
        if (line.machines >= MOST || outs < 1 || outs > MOST) {
            return NONE;
        }
        untouched = false;
        return line.addMachine(outs);
    }

    public int port() {
        if (line.ports >= MOST) {
            return NONE;
        }
        untouched = false;
        return line.addPort();
    }

    public boolean joinOut(int machine, int out, int to) {
        if (!line.hasOut(machine, out) || !line.hasTarget(to)) {
            return false;
        }
        line.joins[machine * MOST + out] = to;
        untouched = false;
        return true;
    }

    public boolean share(int machine, int kind, int out, long above, long below) {
        return tellShare(machine, kind, out, above, below);
    }

    public boolean crush(int machine, int from, int to, long above, long below) {
        if (!line.hasRow(machine, from) || !line.hasKind(to) || from == to) {
            return false;
        }
        if (!isShare(above, below)) {
            return false;
        }
        int row = line.row(machine, from);
        line.crushed[row] = inUnits(above, below);
        line.becomes[row] = to;
        untouched = false;
        return true;
    }

    public boolean feed(int machine, int kind, long grams) {
        if (!line.hasRow(machine, kind) || grams < 0 || grams > MOST_FEED) {
            return false;
        }
        line.feeds[line.row(machine, kind)] = grams;
        untouched = false;
        return true;
    }

    public int solve() {
        return solveAll();
    }

    public long out(int port, int kind, int part) {
        if (!solved.hasPort(port) || !line.hasKind(kind) || !isPart(part)) {
            return NONE;
        }
        Whole amount = solved.atPorts[line.row(port, kind)];
        return flow.division.partOf(amount, solved.below, part);
    }

    public long load(int machine, int part) {
        if (!solved.hasMachine(machine) || !isPart(part)) {
            return NONE;
        }
        return flow.division.partOf(solved.loads[machine], solved.below, part);
    }

    public boolean span(int machine, long low, long high) {
        if (!line.hasMachine(machine) || low < 0 || low > high || high > MOST_GRAMS) {
            return false;
        }
        line.spanned[machine] = true;
        line.lows[machine] = low;
        line.highs[machine] = high;
        return true;
    }

    public int over(int k) {
        int found = 0;
        for (int machine = 0; machine < MOST; machine++) {
            if (isOutsideSpan(machine)) {
                if (found == k) {
                    return machine;
                }
                found++;
            }
        }
        return NONE;
    }

    public long slope(int machine, int kind, int out, int port, int part) {
        if (!line.hasSharedOut(machine, kind, out) || !line.hasPort(port) || !isPart(part)) {
            return NONE;
        }
        if (line.firstStuck() != NONE) {
            return NONE;
        }
        return flow.slopePart(machine, kind, out, port, part);
    }

    public long purity(int port, int kind, int part) {
        if (!solved.hasPort(port) || !line.hasKind(kind) || !isPart(part)) {
            return NONE;
        }
        Whole all = solved.allAtPort(port, line);
        if (all.isZero()) {
            return NONE;
        }
        return flow.division.partOf(solved.atPorts[line.row(port, kind)], all, part);
    }

    public boolean change(int machine, int kind, int out, long above, long below) {
        if (!tellShare(machine, kind, out, above, below)) {
            return false;
        }
        solveAll();
        return true;
    }

    public int find(int machine, int kind, long grams) {
        if (!line.hasSharedOut(machine, kind, 0) || line.ports < 1) {
            return NONE;
        }
        if (grams < 0 || grams > MOST_GRAMS) {
            return NONE;
        }
        int before = line.shareOf(machine, kind, 0);
        for (int twelfths = 0; twelfths <= MOST_BELOW; twelfths++) {
            int share = twelfths * TWELFTH;
            if (line.setShare(machine, kind, 0, share) && bringsToPortZero(kind, grams)) {
                takeSolution();
                return twelfths;
            }
        }
        line.setShare(machine, kind, 0, before);
        return NONE;
    }

    public boolean kept() {
        return untouched;
    }

    private static boolean isPart(int part) {
        return part >= 0 && part <= LAST_PART;
    }

    private static boolean isShare(long above, long below) {
        return below >= 1 && below <= MOST_BELOW && above >= 0 && above <= below;
    }

    private static int inUnits(long above, long below) {
        return below < 1 ? 0 : (int) (above * (UNIT / below));
    }

    private boolean tellShare(int machine, int kind, int out, long above, long below) {
        if (!line.hasSharedOut(machine, kind, out) || !isShare(above, below)) {
            return false;
        }
        if (!line.setShare(machine, kind, out, inUnits(above, below))) {
            return false;
        }
        untouched = false;
        return true;
    }

    private int solveAll() {
        int stuck = line.firstStuck();
        if (stuck != NONE) {
            solved.known = false;
            untouched = false;
            return 1 + stuck;
        }
        flow.readLine();
        flow.eliminate(1);
        takeSolution();
        return 0;
    }

    private void takeSolution() {
        solved.take(flow, line);
        untouched = true;
    }

    private boolean bringsToPortZero(int kind, long grams) {
        if (line.firstStuck() != NONE) {
            return false;
        }
        flow.readLine();
        flow.eliminate(1);
        return flow.bringsAtLeast(0, kind, grams);
    }

    private boolean isOutsideSpan(int machine) {
        if (!solved.hasMachine(machine) || !line.spanned[machine]) {
            return false;
        }
        return solved.compareLoad(machine, line.lows[machine]) < 0
                || solved.compareLoad(machine, line.highs[machine]) > 0;
    }

    /** What was told. Shares are held in units, the last out's rest with them. */
    private static final class Line {
        final int kinds;
        int machines;
        int ports;
        final int[] outs = new int[MOST];
        final int[] joins = new int[MOST * MOST];
        final int[] shares = new int[ROWS * MOST];
        final int[] crushed = new int[ROWS];
        final int[] becomes = new int[ROWS];
        final long[] feeds = new long[ROWS];
        final boolean[] spanned = new boolean[MOST];
        final long[] lows = new long[MOST];
        final long[] highs = new long[MOST];
        private final boolean[] getsAway = new boolean[ROWS];

        Line(int kinds) {
            this.kinds = kinds;
            Arrays.fill(joins, -1);
        }

        boolean hasMachine(int machine) {
            return machine >= 0 && machine < machines;
        }

        boolean hasPort(int port) {
            return port >= 0 && port < ports;
        }

        boolean hasKind(int kind) {
            return kind >= 0 && kind < kinds;
        }

        boolean hasRow(int machine, int kind) {
            return hasMachine(machine) && hasKind(kind);
        }

        boolean hasOut(int machine, int out) {
            return hasMachine(machine) && out >= 0 && out < outs[machine];
        }

        /** Whether it is an out with a share that can be told: not the last one. */
        boolean hasSharedOut(int machine, int kind, int out) {
            return hasOut(machine, out) && hasKind(kind) && out != lastOut(machine);
        }

        boolean hasTarget(int to) {
            return to >= 0 ? to < machines : to == -1 || hasPort(PORT_ZERO - to);
        }

        int lastOut(int machine) {
            return outs[machine] - 1;
        }

        /** The row of a machine and kind, and likewise of a port and kind. */
        int row(int machineOrPort, int kind) {
            return machineOrPort * kinds + kind;
        }

        int shareOf(int machine, int kind, int out) {
            return shares[row(machine, kind) * MOST + out];
        }

        int target(int machine, int out) {
            return joins[machine * MOST + out];
        }

        int addMachine(int outCount) {
            int machine = machines;
            outs[machine] = outCount;
            for (int kind = 0; kind < kinds; kind++) {
                shares[row(machine, kind) * MOST + outCount - 1] = UNIT;
            }
            machines++;
            return machine;
        }

        int addPort() {
            ports++;
            return ports - 1;
        }

        /** False, with nothing changed, when the shares would be more than 1 together. */
        boolean setShare(int machine, int kind, int out, int units) {
            int first = row(machine, kind) * MOST;
            int last = first + lastOut(machine);
            int rest = shares[last] + shares[first + out] - units;
            if (rest < 0) {
                return false;
            }
            shares[first + out] = units;
            shares[last] = rest;
            return true;
        }

        /** The least machine from which some kind never gets away, or NONE when it stands. */
        int firstStuck() {
            for (int row = 0; row < ROWS; row++) {
                getsAway[row] = false;
            }
            for (int round = 0; round < ROWS; round++) {
                spreadGetsAway();
            }
            for (int machine = 0; machine < machines; machine++) {
                for (int kind = 0; kind < kinds; kind++) {
                    if (!getsAway[row(machine, kind)]) {
                        return machine;
                    }
                }
            }
            return NONE;
        }

        private void spreadGetsAway() {
            for (int machine = 0; machine < machines; machine++) {
                for (int kind = 0; kind < kinds; kind++) {
                    int row = row(machine, kind);
                    if (crushed[row] < UNIT && leavesAs(machine, kind)) {
                        getsAway[row] = true;
                    }
                    if (crushed[row] > 0 && leavesAs(machine, becomes[row])) {
                        getsAway[row] = true;
                    }
                }
            }
        }

        private boolean leavesAs(int machine, int kind) {
            for (int out = 0; out < outs[machine]; out++) {
                int to = target(machine, out);
                if (shareOf(machine, kind, out) > 0 && (to < 0 || getsAway[row(to, kind)])) {
                    return true;
                }
            }
            return false;
        }
    }

    /**
     * The balance of a line in whole numbers, and its solution.
     *
     * What comes in of row r is scale[r] times an unknown z[r]; of it moves[t][r] * z[r] goes to
     * row t, and leaves[p][r] * z[r] to the port row p. So for each row
     * scale[r] * z[r] - sum of moves[r][s] * z[s] = feed[r].
     */
    private static final class Flow {
        /** A column for each row, one for the feeds, two for a gram put in at one row alone. */
        private static final int COLUMNS = ROWS + 3;

        final Division division = new Division();
        /** What every solution is to be divided by. */
        final Whole below = new Whole();
        private final Line line;
        private int size;
        private final int[] scale = new int[ROWS];
        private final int[][] moves = new int[ROWS][ROWS];
        private final int[][] leaves = new int[ROWS][ROWS];
        /** turns[k][r] * z[r] is what is of kind k after crushing. */
        private final int[][] turns = new int[MOST][ROWS];
        private final Whole[] cells = new Whole[ROWS * COLUMNS];
        private final Whole first = new Whole();
        private final Whole second = new Whole();
        private final Whole passing = new Whole();
        private final Whole product = new Whole();
        private final Whole square = new Whole();

        Flow(Line line) {
            this.line = line;
            for (int at = 0; at < ROWS * COLUMNS; at++) {
                cells[at] = new Whole();
            }
        }

        /** Reads the line as it is told now, with its feeds as the first right side. */
        void readLine() {
            size = line.machines * line.kinds;
            for (int machine = 0; machine < line.machines; machine++) {
                for (int kind = 0; kind < line.kinds; kind++) {
                    readColumn(machine, kind);
                }
            }
            for (int row = 0; row < size; row++) {
                for (int column = 0; column < size; column++) {
                    cell(row, column).become(moves[row][column]);
                }
                cell(row, row).become(scale[row] - moves[row][row]);
                cell(row, size).become(line.feeds[row]);
            }
        }

        /**
         * Bareiss' elimination, so that every division is exact; only for a line that stands.
         * Cells beside the diagonal stand for their negatives: these never turn positive then,
         * and the diagonal stays above 0, so no number here is below 0 and no pivot is 0.
         */
        void eliminate(int rightSides) {
            below.become(1);
            for (int pivot = 0; pivot < size; pivot++) {
                for (int row = 0; row < size; row++) {
                    if (row == pivot) {
                        continue;
                    }
                    for (int column = pivot + 1; column < size + rightSides; column++) {
                        eliminateCell(row, column, pivot);
                    }
                }
                below.become(cell(pivot, pivot));
            }
        }

        void putAtPort(int port, int kind, Whole amount) {
            amount.become(0);
            addAtPort(port, kind, size, amount);
        }

        void putLoad(int machine, Whole amount) {
            amount.become(0);
            for (int kind = 0; kind < line.kinds; kind++) {
                int row = line.row(machine, kind);
                amount.addTimes(cell(row, size), scale[row]);
            }
        }

        boolean bringsAtLeast(int port, int kind, long grams) {
            putAtPort(port, kind, first);
            second.become(0);
            second.addTimes(below, grams);
            return first.compareWith(second) >= 0;
        }

        /**
         * A share that grows sends more of what passes through to its out's target, and as much
         * less to the last out's: the slope is what passes, times by how much more of a gram put
         * in at the one target than of one put in at the other comes to the port.
         */
        long slopePart(int machine, int kind, int out, int port, int part) {
            int gain = line.target(machine, out);
            int loss = line.target(machine, line.lastOut(machine));
            readLine();
            putGram(gain, kind, size + 1);
            putGram(loss, kind, size + 2);
            eliminate(3);
            putReached(gain, port, size + 1, first);
            putReached(loss, port, size + 2, second);
            boolean falls = first.compareWith(second) < 0;
            Whole more = falls ? second : first;
            Whole less = falls ? first : second;
            more.subtract(less);
            putPassing(machine, kind, passing);
            product.becomeProduct(more, passing);
            square.becomeProduct(below, below);
            return falls ? division.partOfNegative(product, square, part)
                    : division.partOf(product, square, part);
        }

        private Whole cell(int row, int column) {
            return cells[row * COLUMNS + column];
        }

        private void readColumn(int machine, int kind) {
            int from = line.row(machine, kind);
            for (int row = 0; row < ROWS; row++) {
                moves[row][from] = 0;
                leaves[row][from] = 0;
            }
            for (int turned = 0; turned < MOST; turned++) {
                turns[turned][from] = 0;
            }
            scale[from] = UNIT * UNIT;
            sendAs(machine, kind, from, UNIT - line.crushed[from]);
            sendAs(machine, line.becomes[from], from, line.crushed[from]);
            shrinkColumn(from);
        }

        private void sendAs(int machine, int kind, int from, int units) {
            turns[kind][from] += units * UNIT;
            for (int out = 0; out < line.outs[machine]; out++) {
                int amount = units * line.shareOf(machine, kind, out);
                int to = line.target(machine, out);
                if (to >= 0) {
                    moves[line.row(to, kind)][from] += amount;
                } else if (to <= PORT_ZERO) {
                    leaves[line.row(PORT_ZERO - to, kind)][from] += amount;
                }
            }
        }

        /** Without it the numbers would outgrow their limbs. */
        private void shrinkColumn(int from) {
            int common = scale[from];
            for (int row = 0; row < ROWS; row++) {
                common = commonDivisor(common, moves[row][from]);
                common = commonDivisor(common, leaves[row][from]);
            }
            for (int kind = 0; kind < MOST; kind++) {
                common = commonDivisor(common, turns[kind][from]);
            }
            divideColumn(from, common);
        }

        private void divideColumn(int from, int divisor) {
            if (divisor <= 1) {
                return;
            }
            scale[from] /= divisor;
            for (int row = 0; row < ROWS; row++) {
                moves[row][from] /= divisor;
                leaves[row][from] /= divisor;
            }
            for (int kind = 0; kind < MOST; kind++) {
                turns[kind][from] /= divisor;
            }
        }

        private static int commonDivisor(int one, int other) {
            int greater = one;
            int lesser = other;
            // for two ints Euclid needs fewer than 50 steps
            for (int step = 0; step < 64 && lesser != 0; step++) {
                int rest = greater % lesser;
                greater = lesser;
                lesser = rest;
            }
            return greater;
        }

        private void eliminateCell(int row, int column, int pivot) {
            Whole cell = cell(row, column);
            Whole toRow = cell(row, pivot);
            Whole fromColumn = cell(pivot, column);
            if (cell.isZero() && (toRow.isZero() || fromColumn.isZero())) {
                return;
            }
            first.becomeProduct(cell(pivot, pivot), cell);
            second.becomeProduct(toRow, fromColumn);
            if (row == column) {
                first.subtract(second);
            } else {
                first.addTimes(second, 1);
            }
            division.divide(first, below);
            cell.become(division.quotient);
        }

        private void putGram(int to, int kind, int column) {
            for (int row = 0; row < size; row++) {
                cell(row, column).become(0);
            }
            if (to >= 0) {
                cell(line.row(to, kind), column).become(1);
            }
        }

        private void addAtPort(int port, int kind, int column, Whole sum) {
            int row = line.row(port, kind);
            for (int from = 0; from < size; from++) {
                sum.addTimes(cell(from, column), leaves[row][from]);
            }
        }

        /** How much of a gram put in at a target comes to the port, of all kinds. */
        private void putReached(int to, int port, int column, Whole reached) {
            reached.become(0);
            if (to == PORT_ZERO - port) {
                reached.become(below);
            } else if (to >= 0) {
                for (int kind = 0; kind < line.kinds; kind++) {
                    addAtPort(port, kind, column, reached);
                }
            }
        }

        /** How much of a kind, after crushing, a machine shares out. */
        private void putPassing(int machine, int kind, Whole amount) {
            amount.become(0);
            for (int from = 0; from < line.kinds; from++) {
                int row = line.row(machine, from);
                amount.addTimes(cell(row, size), turns[kind][row]);
            }
        }
    }

    /** What was solved, each amount to be divided by the same whole number. */
    private static final class Solved {
        boolean known;
        private int machines;
        private int ports;
        final Whole below = new Whole();
        final Whole[] atPorts = new Whole[ROWS];
        final Whole[] loads = new Whole[MOST];
        private final Whole sum = new Whole();

        Solved() {
            for (int row = 0; row < ROWS; row++) {
                atPorts[row] = new Whole();
            }
            for (int machine = 0; machine < MOST; machine++) {
                loads[machine] = new Whole();
            }
        }

        boolean hasMachine(int machine) {
            return known && machine >= 0 && machine < machines;
        }

        boolean hasPort(int port) {
            return known && port >= 0 && port < ports;
        }

        void take(Flow flow, Line line) {
            known = true;
            machines = line.machines;
            ports = line.ports;
            below.become(flow.below);
            for (int port = 0; port < ports; port++) {
                for (int kind = 0; kind < line.kinds; kind++) {
                    flow.putAtPort(port, kind, atPorts[line.row(port, kind)]);
                }
            }
            for (int machine = 0; machine < machines; machine++) {
                flow.putLoad(machine, loads[machine]);
            }
        }

        Whole allAtPort(int port, Line line) {
            sum.become(0);
            for (int kind = 0; kind < line.kinds; kind++) {
                sum.addTimes(atPorts[line.row(port, kind)], 1);
            }
            return sum;
        }

        int compareLoad(int machine, long grams) {
            sum.become(0);
            sum.addTimes(below, grams);
            return loads[machine].compareWith(sum);
        }
    }

    /** Whole division, and the parts of a fraction by it. */
    private static final class Division {
        final Whole quotient = new Whole();
        private final Whole rest = new Whole();
        private final Whole shifted = new Whole();
        private final Whole next = new Whole();

        long partOf(Whole above, Whole under, int part) {
            divide(above, under);
            for (int group = 0; group < part; group++) {
                next.become(0);
                next.addTimes(rest, GROUP);
                divide(next, under);
            }
            return quotient.lowestBits();
        }

        /** A part of - above / under, whose whole number lies below it, not towards 0. */
        long partOfNegative(Whole above, Whole under, int part) {
            divide(above, under);
            if (rest.isZero()) {
                return part == 0 ? -quotient.lowestBits() : 0;
            }
            if (part == 0) {
                return -quotient.lowestBits() - 1;
            }
            next.become(under);
            next.subtract(rest);
            return partOf(next, under, part);
        }

        /** Knuth's algorithm D; by 0 the quotient is 0. */
        void divide(Whole above, Whole under) {
            quotient.become(0);
            rest.become(above);
            int top = under.topLimb();
            if (top == 0) {
                return;
            }
            int shift = Integer.numberOfLeadingZeros(top) - Whole.SPARE_BITS;
            shifted.become(under);
            shifted.shiftUp(shift);
            rest.shiftUp(shift);
            for (int at = rest.used - shifted.used; at >= 0; at--) {
                quotient.setLimb(at, nextDigit(at));
            }
            rest.shiftDown(shift);
        }

        /** Takes the divisor, moved up to a limb, from the rest as often as it goes. */
        private int nextDigit(int at) {
            int digit = guessDigit(at);
            int owed = rest.subtractTimes(shifted, digit, at);
            // as the divisor's top bit is set, the guess is at most 2 too high
            for (int time = 0; time < 2 && owed != 0; time++) {
                digit--;
                owed -= rest.addAt(shifted, at);
            }
            return digit;
        }

        private int guessDigit(int at) {
            int top = shifted.topLimb();
            if (top == 0) {
                return 0;
            }
            int head = at + shifted.used;
            long two = ((long) rest.limb(head) << Whole.BITS) + rest.limb(head - 1);
            return (int) Math.min(two / top, Whole.MASK);
        }
    }

    /**
     * A whole number of 0 or more. With limbs of 30 bits a product of two of them, and what is
     * carried, stays within a long.
     */
    private static final class Whole {
        static final int BITS = 30;
        static final int SPARE_BITS = 32 - BITS;
        static final long MASK = (1L << BITS) - 1;
        /**
         * Enough for all: a scale is at most 12 * 6930, so what 9 of them give is below 2^148;
         * a solution has at most 27 feeds as a factor more, so is below 2^173. Their product is
         * below 2^321, the square of the former, times GROUP, below 2^326; moved up by less than
         * a limb for a division both stay below 2^356, and a limb is left above them.
         */
        static final int LIMBS = 13;

        private final int[] limbs = new int[LIMBS];
        /** The limbs from here on are 0. */
        int used;

        boolean isZero() {
            return used == 0;
        }

        int limb(int at) {
            return at >= 0 && at < LIMBS ? limbs[at] : 0;
        }

        int topLimb() {
            return used >= 1 && used <= LIMBS ? limbs[used - 1] : 0;
        }

        /** As a long holds them: of a greater number the lowest 64. */
        long lowestBits() {
            return limbs[0] | ((long) limbs[1] << BITS) | ((long) limbs[2] << (2 * BITS));
        }

        void become(long value) {
            Arrays.fill(limbs, 0);
            limbs[0] = (int) (value & MASK);
            limbs[1] = (int) ((value >>> BITS) & MASK);
            limbs[2] = (int) (value >>> (2 * BITS));
            dropZeros(3);
        }

        void become(Whole other) {
            System.arraycopy(other.limbs, 0, limbs, 0, LIMBS);
            used = other.used;
        }

        /** Neither of both is this. */
        void becomeProduct(Whole one, Whole other) {
            Arrays.fill(limbs, 0);
            for (int low = 0; low < one.used; low++) {
                long factor = one.limbs[low];
                long carry = 0;
                for (int at = 0; at <= other.used && low + at < LIMBS; at++) {
                    long sum = limbs[low + at] + factor * other.limb(at) + carry;
                    limbs[low + at] = (int) (sum & MASK);
                    carry = sum >>> BITS;
                }
            }
            dropZeros(one.used + other.used);
        }

        int compareWith(Whole other) {
            for (int at = LIMBS - 1; at >= 0; at--) {
                if (limbs[at] != other.limbs[at]) {
                    return limbs[at] < other.limbs[at] ? -1 : 1;
                }
            }
            return 0;
        }

        /** The factor is of 0 .. MASK. */
        void addTimes(Whole other, long factor) {
            long carry = 0;
            int end = Math.min(Math.max(used, other.used) + 2, LIMBS);
            for (int at = 0; at < end; at++) {
                long sum = limbs[at] + other.limbs[at] * factor + carry;
                limbs[at] = (int) (sum & MASK);
                carry = sum >>> BITS;
            }
            dropZeros(end);
        }

        /** The other is at most this. */
        void subtract(Whole other) {
            int owed = 0;
            for (int at = 0; at < used; at++) {
                int left = limbs[at] - other.limbs[at] - owed;
                limbs[at] = (int) (left & MASK);
                owed = left < 0 ? 1 : 0;
            }
            dropZeros(used);
        }

        /** Answers 1 when it was too much, and 1 is owed by the limb after those it touched. */
        int subtractTimes(Whole other, long factor, int from) {
            long owed = 0;
            for (int at = 0; at <= other.used && from + at < LIMBS; at++) {
                long left = limbs[from + at] - other.limb(at) * factor - owed;
                limbs[from + at] = (int) (left & MASK);
                owed = -(left >> BITS);
            }
            return (int) owed;
        }

        /** Answers what is carried to the limb after those it touched. */
        int addAt(Whole other, int from) {
            int carry = 0;
            for (int at = 0; at <= other.used && from + at < LIMBS; at++) {
                int sum = limbs[from + at] + other.limb(at) + carry;
                limbs[from + at] = (int) (sum & MASK);
                carry = sum >>> BITS;
            }
            return carry;
        }

        void setLimb(int at, int value) {
            if (at >= 0 && at < LIMBS) {
                limbs[at] = value;
                dropZeros(Math.max(used, at + 1));
            }
        }

        /** By less than a limb. */
        void shiftUp(int bits) {
            long carry = 0;
            int end = Math.min(used + 1, LIMBS);
            for (int at = 0; at < end; at++) {
                long moved = ((long) limbs[at] << bits) + carry;
                limbs[at] = (int) (moved & MASK);
                carry = moved >>> BITS;
            }
            dropZeros(end);
        }

        /** By less than a limb. */
        void shiftDown(int bits) {
            long carry = 0;
            for (int at = used - 1; at >= 0; at--) {
                long moved = (carry << BITS) + limbs[at];
                limbs[at] = (int) (moved >>> bits);
                carry = moved & ((1L << bits) - 1);
            }
            dropZeros(used);
        }

        /** Looks for the top limb, below a place. */
        private void dropZeros(int from) {
            int end = from < LIMBS ? from : LIMBS;
            while (end > 0 && limbs[end - 1] == 0) {
                end--;
            }
            used = end;
        }
    }
}
