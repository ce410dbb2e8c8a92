/** Promises 10 to 19: rows. */
public final class RowsTest {
    private static final String RING = "0110ys1;1210yy0;2010na";
    private static final Checks C = new Checks();

    public static void main(String[] args) {
        rows();
        known();
        letOff();
        sure();
        cannotAndFreed();
        broken();
        nearest();
        stepsAndReturns();
        hangsAndRings();
        refusals();
        C.end();
    }

    private static void rowsAre(String matters, int lag, int letOff, int... due) {
        AnswersFirst x = Checks.withMatters(matters);
        x.set(0, lag);
        x.set(3, letOff);
        C.due("rows(-1) of " + matters, x.rows(-1), due.length);
        for (int i = 0; i < due.length; i++) {
            C.due("rows(" + i + ") of " + matters, x.rows(i), due[i]);
        }
        C.due("rows() behind the last", x.rows(due.length), -1);
    }

    private static void rows() {
        rowsAre("", 9, 0, 0);
        rowsAre("0110ya", 9, 0, 1);
        rowsAre("0110ye", 9, 0, 0);
        rowsAre("0110ys0", 9, 0);
        rowsAre("0110yy0", 9, 0, 0, 1);
        rowsAre("0110ny0", 9, 0, 0);
        rowsAre("0110nn0", 9, 0, 0, 1);
        rowsAre("0110ys1;0110ys0", 9, 0, 1, 2);
        rowsAre("0110yy1;0110yy0", 9, 0, 0, 3);
        rowsAre("0110yy5;0110yn5;0110ys5", 9, 0, 4);
        rowsAre(RING, 9, 0);
        AnswersFirst x = Checks.withMatters("0110ya");
        C.due("rows(1023)", x.rows(1023), -1);
        x.set(3, 1);
        C.due("rows(-1), let off", x.rows(-1), 2);
        x.wipe(0);
        C.due("rows(-1), wiped", x.rows(-1), 1);
    }

    /** A reply to matter 1 comes LAG days ahead of day 20; matter 0 is of day 11. */
    private static void known() {
        rowsAre("0111yy1;0120ya", 9, 0, 3);
        rowsAre("0111yy1;0120ya", 8, 0, 2);
        rowsAre("0111yn1;0120na", 9, 0, 3);
        rowsAre("0111yn1;0120na", 8, 0, 2);
        rowsAre("0111ys1;0120na", 9, 0, 2);
        rowsAre("0111ys1;0120na", 8, 0, 3);
        rowsAre("0100yy1;0101ya", 1, 0, 3);
        rowsAre("0100yy1;0102ya", 1, 0, 2);
    }

    private static void letOff() {
        rowsAre(RING, 9, 1, 4, 7);
        rowsAre(RING, 9, 4);
        rowsAre(RING, 9, 1 + 4, 0, 3, 4, 7);
        rowsAre(RING, 9, 1016);
        rowsAre("0110ye", 9, 1023, 0, 1);
        AnswersFirst x = Checks.withMatters(Checks.times("0110ye", 10));
        x.set(3, 1023);
        C.due("all let off: rows(-1)", x.rows(-1), 1024);
        C.due("all let off: rows(1023)", x.rows(1023), 1023);
        C.due("all let off: rows(7)", x.rows(7), 7);
    }

    private static void sure() {
        AnswersFirst x = Checks.withMatters("0110ys1;0110ys0;0110ya;0110ye");
        C.due("sure(1)", x.sure(1), 4);
        C.due("sure(0)", x.sure(0), 8);
        Checks.say(x, 0, RING);
        C.due("sure(1), no rows", x.sure(1), 7);
        C.due("sure(0), no rows", x.sure(0), 7);
        Checks.say(x, 0, "");
        C.due("sure(1), no matters", x.sure(1), 0);
        C.due("sure(0), no matters", x.sure(0), 0);
    }

    private static void clashIs(String matters, int letOff, int cannot, int freed) {
        AnswersFirst x = Checks.withMatters(matters);
        x.set(3, letOff);
        C.due("cannot(1) of " + matters, x.cannot(1), cannot);
        C.due("cannot(0) of " + matters, x.cannot(0), cannot < 0 ? cannot : Integer.bitCount(cannot));
        C.due("freed(1) of " + matters, x.freed(1), freed);
        C.due("freed(0) of " + matters, x.freed(0), Integer.bitCount(freed));
    }

    private static void cannotAndFreed() {
        clashIs("", 0, -1, 0);
        clashIs("0110ya", 0, -1, 0);
        clashIs(RING, 0, 3, 1);
        clashIs(RING, 1, -1, 0);
        clashIs("0110ys0", 0, 1, 1);
        // Three in a ring, then one against itself: the one alone is fewest that cannot be.
        clashIs("0110ys1;0110yy2;0110yy0;0110ys3", 0, 8, 9);
        // Two that stand against themselves: of like ones the least; both are to be let off.
        clashIs("0110ya;0110ys1;0110ys2", 0, 2, 6);
        clashIs("0110ya;0110ys1;0110ys2", 2, 4, 4);
        // A ring of three silences.
        clashIs("0110ys1;0110ys2;0110ys0", 0, 7, 1);
        clashIs("0110ya;0110ys2;0110ys3;0110ys1", 0, 14, 2);
    }

    private static void broken() {
        AnswersFirst x = Checks.withMatters(RING);
        for (int row = 0; row < 8; row++) {
            C.due("broken(" + row + ")", x.broken(row), brokenOfRing(row));
            C.due("broken, others aside", x.broken(row | 1016), brokenOfRing(row));
        }
        C.due("broken(0)", x.broken(0), 5);
        x.set(3, 5);
        C.due("broken(0), let off", x.broken(0), 0);
        C.due("broken(2), let off", x.broken(2), 2);
    }

    private static int brokenOfRing(int row) {
        boolean zero = (row & 1) != 0;
        boolean one = (row & 2) != 0;
        boolean two = (row & 4) != 0;
        return (zero == one ? 1 : 0) | (one != zero ? 2 : 0) | (two ? 0 : 4);
    }

    private static void nearest() {
        AnswersFirst x = Checks.withMatters("0110yy1;0110yy0;0110yy3;0110yy2");
        C.due("nearest(0)", x.nearest(0), 0);
        C.due("nearest(1), of like ones the least", x.nearest(1), 0);
        C.due("nearest(7)", x.nearest(7), 3);
        C.due("nearest(11)", x.nearest(11), 3);
        C.due("nearest(14)", x.nearest(14), 12);
        C.due("nearest(15)", x.nearest(15), 15);
        C.due("nearest(1008 + 15)", x.nearest(1023), 15);
        C.due("nearest(1008)", x.nearest(1008), 0);
        Checks.say(x, 0, RING);
        C.due("nearest, no rows", x.nearest(0), -1);
    }

    private static void stepsAndReturns() {
        AnswersFirst x = Checks.withMatters(RING);
        int[] path = {0, 5, 7, 6, 4, 5, 7, 6, 4};
        for (int k = 0; k < path.length; k++) {
            C.due("steps(0, " + k + ")", x.steps(0, k), path[k]);
        }
        C.due("steps(1016, 0)", x.steps(1016, 0), 0);
        C.due("steps(0, 99)", x.steps(0, 99), path[1 + 98 % 4]);
        C.due("returns(0, 0)", x.returns(0, 0), 5);
        C.due("returns(0, 1)", x.returns(0, 1), 4);
        C.due("returns(5, 0)", x.returns(5, 0), 4);
        C.due("returns(1021, 0)", x.returns(1021, 0), 4);
        x.set(3, 1);
        C.due("steps, let off stays out", x.steps(0, 9), 4);
        C.due("steps, let off stays in", x.steps(1, 9), 7);
        C.due("returns, let off", x.returns(1, 0), 2);
        C.due("returns, let off", x.returns(7, 0), 1);
        // Rings of 4, and of 6 (three silences, turned about): both together come again behind 12.
        Checks.say(x, 0, "0110ys1;0110yy0;0110ys3;0110ys4;0110ys2");
        x.set(3, 0);
        C.due("returns, rings of 4 and 6", x.returns(8, 0), 12);
        C.due("returns, rings of 4 and 6", x.returns(8, 1), 12);
    }

    private static void hangsAndRings() {
        AnswersFirst x = Checks.withMatters("0110yy1;0119yn2;0128ys3;0129ya;0110ys4;0110yy9;0110yy4");
        int[] due = {14, 12, 8, 0, 16, 0, 16};
        for (int m = 0; m < due.length; m++) {
            C.due("hangs(" + m + ")", x.hangs(m), due[m]);
        }
        C.due("rings()", x.rings(), 16);
        C.due("hangs(7)", x.hangs(7), -2);
        x.set(0, 8);
        C.due("hangs(0), not known", x.hangs(0), 0);
        C.due("hangs(2)", x.hangs(2), 8);
        Checks.say(x, 0, "0110yy1;0110nn2;0118ys0;0110yy0");
        C.due("rings(), of three", x.rings(), 7);
        C.due("hangs(3), on the ring", x.hangs(3), 7);
        x.set(3, 1023);
        C.due("rings(), let off", x.rings(), 7);
        x.set(0, 7);
        C.due("rings(), not known", x.rings(), 0);
        C.due("hangs(0), up to what is not known", x.hangs(0), 2);
    }

    private static void refusals() {
        AnswersFirst x = Checks.withMatters("0110ya");
        C.due("rows(-2)", x.rows(-2), -2);
        C.due("rows(1024)", x.rows(1024), -2);
        for (int what : new int[] {-1, 2, Integer.MAX_VALUE}) {
            C.due("sure", x.sure(what), -2);
            C.due("cannot", x.cannot(what), -2);
            C.due("freed", x.freed(what), -2);
            C.due("returns", x.returns(0, what), -2);
        }
        for (int row : new int[] {-1, 1024, Integer.MIN_VALUE}) {
            C.due("broken", x.broken(row), -2);
            C.due("nearest", x.nearest(row), -2);
            C.due("steps", x.steps(row, 0), -2);
            C.due("returns", x.returns(row, 0), -2);
        }
        C.due("steps(0, -1)", x.steps(0, -1), -2);
        C.due("steps(0, 100)", x.steps(0, 100), -2);
        C.due("steps(1023, 99)", x.steps(1023, 99), 1);
        C.due("hangs(-1)", x.hangs(-1), -2);
        C.due("hangs(1)", x.hangs(1), -2);
        C.due("hangs(10)", x.hangs(10), -2);
    }
}
