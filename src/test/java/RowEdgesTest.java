/** Part 2 of the document and promises 10 to 19, a test for each sentence that names a boundary case. */
public final class RowEdgesTest {
    private static final int NONE = -1, BAD = -2;
    private static final String AGAINST_ITSELF = "0110ys0";
    private static final Checks C = new Checks();

    public static void main(String[] args) {
        howManyRows();
        theIth();
        sureWithoutRows();
        sureOfOneAndOfAll();
        cannotThereIsARow();
        cannotFewest();
        cannotLeastBits();
        cannotWhateverTheOthersAre();
        cannotOfAnotherText();
        freedNone();
        freedTooAndFewest();
        freedLeastBits();
        brokenByAnyBits();
        nearestNone();
        nearestOfLikeOnesTheLeast();
        bitsAside();
        noStepAndMostSteps();
        stepsAllAtOnce();
        thoseLetOffStay();
        returnsToToldOnes();
        returnsToLaterOnes();
        hangsKnownByThen();
        hangsOnAndOn();
        hangsOfNoMatter();
        ringsOfThemselves();
        C.end();
    }

    /** So many matters, each by the next one, the last by the first; a sign for each tells by what. */
    private static String ring(String whens) {
        StringBuilder all = new StringBuilder();
        for (int m = 0; m < whens.length(); m++) {
            all.append(m > 0 ? ";" : "").append("0110y").append(whens.charAt(m)).append((m + 1) % whens.length());
        }
        return all.toString();
    }

    private static AnswersFirst with(String matters, int letOff) {
        AnswersFirst x = Checks.withMatters(matters);
        x.set(3, letOff);
        return x;
    }

    // ---- ROWS

    private static void howManyRows() {
        C.of("ROWS: how many (i = NONE)");
        C.due("of no matters", new AnswersFirst().rows(NONE), 1);
        C.due("none", Checks.withMatters(AGAINST_ITSELF).rows(NONE), 0);
        for (int n = 1; n <= 10; n++) {
            C.due("each by itself, " + n, each(n, "0110yy").rows(NONE), 1 << n);
            C.due("all let off, " + n, with(Checks.times("0110ye", n), 1023).rows(NONE), 1 << n);
        }
    }

    /** So many matters, each by itself. */
    private static AnswersFirst each(int n, String entry) {
        StringBuilder all = new StringBuilder();
        for (int m = 0; m < n; m++) {
            all.append(m > 0 ? ";" : "").append(entry).append(m);
        }
        return Checks.withMatters(all.toString());
    }

    private static void theIth() {
        C.of("the i-th (0 to 1023; NONE). BAD");
        AnswersFirst x = each(10, "0110yy");
        for (int i : new int[] {0, 1, 511, 512, 1022, 1023}) {
            C.due("rows(" + i + ") of 1024", x.rows(i), i);
        }
        C.due("rows(1024)", x.rows(1024), BAD);
        C.due("rows(-2)", x.rows(-2), BAD);
        x = each(9, "0110yy");
        C.due("rows(511) of 512", x.rows(511), 511);
        C.due("rows(512) of 512", x.rows(512), NONE);
        C.due("rows(1023) of 512", x.rows(1023), NONE);
        x = new AnswersFirst();
        C.due("rows(0) of no matters", x.rows(0), 0);
        C.due("rows(1) of no matters", x.rows(1), NONE);
        C.due("rows(0) without rows", Checks.withMatters(AGAINST_ITSELF).rows(0), NONE);
        x = with("0110ye;0110ya;0110ye", 4);
        C.due("rows(0), from the least on", x.rows(0), 2);
        C.due("rows(1), from the least on", x.rows(1), 6);
    }

    // ---- SURE

    private static void sureWithoutRows() {
        C.of("as bits (without ROWS all that there are)");
        for (int n = 1; n <= 10; n++) {
            String others = n > 1 ? ";" + Checks.times("0110ye", n - 1) : "";
            AnswersFirst x = Checks.withMatters(AGAINST_ITSELF + others);
            C.due("no rows", x.rows(NONE), 0);
            C.due("sure(0) of " + n, x.sure(0), (1 << n) - 1);
            C.due("sure(1) of " + n, x.sure(1), (1 << n) - 1);
        }
    }

    private static void sureOfOneAndOfAll() {
        C.of("SURE: MATTERS that are WRITTEN in all of these, in none of them, as bits");
        AnswersFirst x = new AnswersFirst();
        C.due("no matters, sure(0)", x.sure(0), 0);
        C.due("no matters, sure(1)", x.sure(1), 0);
        x = Checks.withMatters(Checks.times("0110ya", 10));
        C.due("one row, all, sure(0)", x.sure(0), 0);
        C.due("one row, all, sure(1)", x.sure(1), 1023);
        x = Checks.withMatters(Checks.times("0110ye", 10));
        C.due("one row, none, sure(0)", x.sure(0), 1023);
        C.due("one row, none, sure(1)", x.sure(1), 0);
        x = each(10, "0110yy");
        C.due("all rows, sure(0)", x.sure(0), 0);
        C.due("all rows, sure(1)", x.sure(1), 0);
        x = with("0110ya;0110ye;0110ya", 4);
        C.due("sure(0), 2 let off", x.sure(0), 2);
        C.due("sure(1), 2 let off", x.sure(1), 1);
    }

    // ---- CANNOT, FREED

    private static void cannotIs(AnswersFirst x, int bits) {
        C.due("cannot(1)", x.cannot(1), bits);
        C.due("cannot(0)", x.cannot(0), bits == NONE ? NONE : Integer.bitCount(bits));
    }

    private static void freedIs(AnswersFirst x, int bits) {
        C.due("freed(1)", x.freed(1), bits);
        C.due("freed(0)", x.freed(0), Integer.bitCount(bits));
    }

    private static void cannotThereIsARow() {
        C.of("NONE: there is a ROW");
        cannotIs(new AnswersFirst(), NONE);
        cannotIs(Checks.withMatters("0110ya"), NONE);
        cannotIs(each(10, "0110yy"), NONE);
        cannotIs(with(AGAINST_ITSELF, 1), NONE);
        cannotIs(Checks.withMatters(AGAINST_ITSELF + ";"), NONE);
        cannotIs(Checks.withMatters(AGAINST_ITSELF), 1);
    }

    private static void cannotFewest() {
        C.of("CANNOT: the fewest MATTERS that cannot be as told together");
        // A ring is against itself, if it has an odd number of silences.
        cannotIs(Checks.withMatters(ring("sy")), 3);
        cannotIs(Checks.withMatters(ring("sss")), 7);
        cannotIs(Checks.withMatters(ring("sssssssss")), 511);
        cannotIs(Checks.withMatters(ring("sssssssssy")), 1023);
        cannotIs(Checks.withMatters(ring("ssssssssss")), NONE);
        // Two in a ring, and behind it one alone: the fewest is the one alone.
        cannotIs(Checks.withMatters(ring("sy") + ";0110ys2"), 4);
        // Three in a ring, then two.
        cannotIs(Checks.withMatters(ring("sss") + ";0110ys4;0110yy3"), 24);
    }

    private static void cannotLeastBits() {
        C.of("of like ones the least bits: how many; as bits");
        cannotIs(each(10, "0110ys"), 1);
        AnswersFirst x = each(10, "0110ys");
        x.set(3, 3);
        cannotIs(x, 4);
        x.set(3, 511);
        cannotIs(x, 512);
        cannotIs(Checks.withMatters("0110ys3;0110ys2;0110yy1;0110yy0"), 6);
    }

    private static void cannotWhateverTheOthersAre() {
        C.of("that cannot be as told together, whatever the others are");
        // 0 by the silence of 1: whether 1 is as told or not, 0 can be as told.
        cannotIs(Checks.withMatters("0110ys1;0110ys1"), 2);
        cannotIs(with(ring("sss"), 1), NONE);
        // One more that is always as told takes no part.
        cannotIs(Checks.withMatters("0110yy1;0110ys0;0110ya"), 3);
    }

    /** What was worked out for one text, or for one LAG, leaves nothing for the next. */
    private static void cannotOfAnotherText() {
        C.of("of like ones the least bits: how many; as bits; NONE: there is a ROW");
        AnswersFirst x = Checks.withMatters("0110ys0;0110ya");
        cannotIs(x, 1);
        Checks.say(x, 0, "0110ya;0110ys1");
        cannotIs(x, 2);
        freedIs(x, 2);
        Checks.say(x, 0, "0110ya;0110ya");
        cannotIs(x, NONE);
        C.due("the row", x.rows(0), 3);
        Checks.say(x, 0, "0110ys1;0119yy0");
        cannotIs(x, 3);
        x.set(0, 8);
        cannotIs(x, NONE);
        C.due("not known by then", x.rows(0), 3);
        x.set(0, 9);
        x.returns(0, 0);
        cannotIs(x, 3);
    }

    private static void freedNone() {
        C.of("FREED: the fewest MATTERS to be LET OFF, too, so that there is a ROW");
        freedIs(new AnswersFirst(), 0);
        freedIs(each(10, "0110yy"), 0);
        freedIs(with(AGAINST_ITSELF, 1), 0);
        freedIs(Checks.withMatters("0110ye;0110ye"), 0);
        freedIs(Checks.withMatters("0110ya;0110ye"), 0);
        freedIs(Checks.withMatters("0110ye;0110ya"), 0);
        freedIs(Checks.withMatters("0110ya;0110ya"), 0);
        freedIs(Checks.withMatters(Checks.times("0110ya", 10)), 0);
    }

    private static void freedTooAndFewest() {
        C.of("the fewest MATTERS to be LET OFF, too");
        freedIs(each(10, "0110ys"), 1023);
        AnswersFirst x = each(10, "0110ys");
        x.set(3, 1022);
        freedIs(x, 1);
        x.set(3, 511);
        freedIs(x, 512);
        x.set(3, 1023);
        freedIs(x, 0);
        // One that is in both rings would do for both, were there one: here each needs its own.
        freedIs(Checks.withMatters(ring("sy") + ";0110ys3;0110yy2"), 5);
    }

    private static void freedLeastBits() {
        C.of("of like ones the least bits: how many; as bits");
        freedIs(Checks.withMatters(ring("sss")), 1);
        freedIs(Checks.withMatters(ring("sssssssssy")), 1);
        freedIs(Checks.withMatters("0110ya;" + "0110ys2;0110ys3;0110ys1"), 2);
    }

    // ---- BROKEN, NEAREST

    private static void brokenByAnyBits() {
        C.of("BROKEN by a ROW (any bits): MATTERS that are not as told in it, as bits");
        AnswersFirst x = Checks.withMatters(Checks.times("0110ya", 10));
        C.due("all always, none written", x.broken(0), 1023);
        C.due("all always, all written", x.broken(1023), 0);
        C.due("all always, all but the last", x.broken(511), 512);
        x = Checks.withMatters(Checks.times("0110ye", 10));
        C.due("all never, none written", x.broken(0), 0);
        C.due("all never, all written", x.broken(1023), 1023);
        x.set(3, 1022);
        C.due("those let off are as told", x.broken(1023), 1);
        x = new AnswersFirst();
        C.due("no matters", x.broken(0) + x.broken(1023), 0);
    }

    private static void nearestNone() {
        C.of("NEAREST: of all ROWS that FIT THEMSELVES ..; NONE");
        AnswersFirst x = Checks.withMatters(AGAINST_ITSELF);
        C.due("nearest(0)", x.nearest(0), NONE);
        C.due("nearest(1)", x.nearest(1), NONE);
        C.due("nearest(1023)", x.nearest(1023), NONE);
        C.due("of no matters", new AnswersFirst().nearest(0), 0);
        x = Checks.withMatters(Checks.times("0110ya", 10));
        C.due("unlike in all", x.nearest(0), 1023);
        x = Checks.withMatters(Checks.times("0110ye", 10));
        C.due("unlike in all", x.nearest(1023), 0);
    }

    private static void nearestOfLikeOnesTheLeast() {
        C.of("the one that is unlike told bits in fewest MATTERS, of like ones the least");
        AnswersFirst x = Checks.withMatters(ring("yy"));
        C.due("nearest(0)", x.nearest(0), 0);
        C.due("nearest(1), one off both", x.nearest(1), 0);
        C.due("nearest(2), one off both", x.nearest(2), 0);
        C.due("nearest(3)", x.nearest(3), 3);
        x = Checks.withMatters(ring("ss"));
        C.due("nearest(0), one off both", x.nearest(0), 1);
        C.due("nearest(3), one off both", x.nearest(3), 1);
        C.due("nearest(2)", x.nearest(2), 2);
        // Not by number: 8 and 7 are next to each other, and unlike in all.
        x = with("0110ys3;0110yy0;0110yy0;0110ys0", 0);
        C.due("rows", x.rows(0) * 100 + x.rows(1), 708);
        C.due("nearest(9)", x.nearest(9), 8);
        C.due("nearest(6)", x.nearest(6), 7);
        C.due("nearest(3), two off 8 and one off 7", x.nearest(3), 7);
        C.due("nearest(10)", x.nearest(10), 8);
    }

    private static void bitsAside() {
        C.of("those of MATTERS that there are not are aside, here and below");
        AnswersFirst x = Checks.withMatters(ring("ys") + ";0110ya");
        x.worth(3, 9);
        for (int row = 0; row < 8; row++) {
            for (int more : new int[] {8, 512, 1016}) {
                int told = row | more;
                C.due("broken(" + told + ")", x.broken(told), x.broken(row));
                C.due("nearest(" + told + ")", x.nearest(told), x.nearest(row));
                C.due("steps(" + told + ", 0)", x.steps(told, 0), row);
                C.due("steps(" + told + ", 3)", x.steps(told, 3), x.steps(row, 3));
                C.due("returns(" + told + ", 0)", x.returns(told, 0), x.returns(row, 0));
                C.due("returns(" + told + ", 1)", x.returns(told, 1), x.returns(row, 1));
            }
        }
        x.set(3, 1);
        for (int told : new int[] {4, 12, 516, 1020, 7, 15, 1023}) {
            C.due("nearest(" + told + ")", x.nearest(told), x.nearest(told & 7));
            C.due("had(" + told + ")", x.had(told, 0, 99), told & 7);
            C.due("asked(" + told + ")", x.asked(told, 0, 99), told & 7);
            C.due("open(" + told + ")", x.open(told, 5), told & 7);
            C.due("rest(" + told + ")", x.rest(told, 0), x.rest(told & 7, 0));
        }
    }

    // ---- STEPS, RETURNS

    private static void noStepAndMostSteps() {
        C.of("behind k (0 to 99) such steps");
        AnswersFirst x = Checks.withMatters(ring("sssssssssy"));
        C.due("steps(1023, 0)", x.steps(1023, 0), 1023);
        C.due("steps(0, 0)", x.steps(0, 0), 0);
        // In this ring all turns over in ten steps.
        C.due("steps(0, 9)", x.steps(0, 9) == 1023 ? 1 : 0, 0);
        C.due("steps(0, 10)", x.steps(0, 10), 1023);
        C.due("steps(0, 20)", x.steps(0, 20), 0);
        C.due("steps(0, 90)", x.steps(0, 90), 1023);
        C.due("steps(0, 99)", x.steps(0, 99), x.steps(1023, 9));
        C.due("steps(0, 99)", x.steps(x.steps(0, 98), 1), x.steps(0, 99));
        C.due("steps(0, 100)", x.steps(0, 100), BAD);
        C.due("steps(0, -1)", x.steps(0, -1), BAD);
        C.due("of no matters", new AnswersFirst().steps(1023, 99), 0);
    }

    private static void stepsAllAtOnce() {
        C.of("told bits become all at once what they should be by themselves");
        AnswersFirst x = Checks.withMatters(ring("yy"));
        C.due("each takes the other's place", x.steps(1, 1), 2);
        C.due("and again", x.steps(1, 2), 1);
        x = Checks.withMatters(ring("ss"));
        C.due("both at once", x.steps(0, 1), 3);
        C.due("both at once", x.steps(3, 1), 0);
    }

    private static void thoseLetOffStay() {
        C.of("(those LET OFF stay)");
        AnswersFirst x = with("0110ya;0110ye;0110yy0", 3);
        C.due("steps(0, 1)", x.steps(0, 1), 0);
        C.due("steps(2, 1)", x.steps(2, 1), 2);
        C.due("steps(3, 1)", x.steps(3, 1), 7);
        x.set(3, 1023);
        for (int row = 0; row < 8; row++) {
            C.due("all let off", x.steps(row, 99), row);
        }
    }

    private static void returnsIs(AnswersFirst x, int row, int till, int ring) {
        C.due("returns(" + row + ", 0)", x.returns(row, 0), till);
        C.due("returns(" + row + ", 1)", x.returns(row, 1), ring);
    }

    private static void returnsToToldOnes() {
        C.of("how many steps till bits are there that were there ahead (told ones, too)");
        returnsIs(new AnswersFirst(), 0, 1, 1);
        returnsIs(new AnswersFirst(), 1023, 1, 1);
        returnsIs(Checks.withMatters("0110ya"), 1, 1, 1);
        returnsIs(Checks.withMatters(AGAINST_ITSELF), 0, 2, 2);
        returnsIs(Checks.withMatters(AGAINST_ITSELF), 1, 2, 2);
        returnsIs(Checks.withMatters(ring("yy")), 1, 2, 2);
        returnsIs(Checks.withMatters(ring("sssssssssy")), 0, 20, 20);
        // Rings of two, three and five: thirty steps.
        String three = "0110yy3;0110yy4;0110yy2";
        String five = "0110yy6;0110yy7;0110yy8;0110yy9;0110yy5";
        returnsIs(Checks.withMatters(ring("yy") + ";" + three + ";" + five), 1 + 4 + 32, 30, 30);
        // Rings of three and seven, the seven turned over: three times fourteen.
        String seven = "0110yy4;0110yy5;0110yy6;0110yy7;0110yy8;0110yy9;0110ys3";
        returnsIs(Checks.withMatters(ring("yyy") + ";" + seven), 1, 42, 42);
    }

    private static void returnsToLaterOnes() {
        C.of("how many of these steps it is since then");
        returnsIs(Checks.withMatters("0110ya"), 0, 2, 1);
        returnsIs(Checks.withMatters("0110ye"), 1, 2, 1);
        returnsIs(Checks.withMatters("0110ya;0110ys1"), 0, 3, 2);
        // A row of ten, each by the one ahead of it: ten steps till all are written, one more to see it.
        String line = "0110ya;0110yy0;0110yy1;0110yy2;0110yy3;0110yy4;0110yy5;0110yy6;0110yy7;0110yy8";
        returnsIs(Checks.withMatters(line), 0, 11, 1);
        returnsIs(Checks.withMatters(line), 1023, 1, 1);
        returnsIs(with(line, 1023), 0, 1, 1);
    }

    // ---- HANGS, RINGS

    private static void hangsKnownByThen() {
        C.of("if it is WRITTEN by what comes to it, and that is KNOWN by then");
        for (String when : new String[] {"y", "n", "s"}) {
            for (int off = -1; off <= 1; off++) {
                AnswersFirst x = Checks.withMatters("0110y" + when + "1;01" + (19 + off) + "ya");
                C.due("hangs(0), " + off + " days off", x.hangs(0), off <= 0 ? 2 : 0);
            }
            C.due("on one that there is not", Checks.withMatters("0110y" + when + "9").hangs(0), 0);
            // A word that can never come is waited for, too.
            C.due("on a no", Checks.withMatters("0110y" + when + "1;0110na").hangs(0), 2);
        }
        C.due("always", Checks.withMatters("0110ya;0110ya").hangs(0), 0);
        C.due("never", Checks.withMatters("0110ye;0110ya").hangs(0), 0);
        C.due("let off", with("0110yy1;0110ya", 3).hangs(0), 2);
    }

    private static void hangsOnAndOn() {
        C.of("as bits of those on which it hangs, going on and on");
        String line = "0110ya;0110yy0;0110yn1;0110ys2;0110yy3;0110yy4;0110yy5;0110yy6;0110yy7;0110yy8";
        AnswersFirst x = Checks.withMatters(line);
        for (int m = 0; m < 10; m++) {
            C.due("hangs(" + m + ") in a line", x.hangs(m), (1 << m) - 1);
        }
        C.due("no rings in a line", x.rings(), 0);
        x = Checks.withMatters(ring("sssssssssy"));
        for (int m = 0; m < 10; m++) {
            C.due("hangs(" + m + ") in a ring", x.hangs(m), 1023);
        }
        // 0 on 1 is known, 1 on 2 is not: there it ends.
        x = Checks.withMatters("0110yy1;0110yy2;0120yy3;0110ya");
        C.due("hangs(0)", x.hangs(0), 2);
        C.due("hangs(1)", x.hangs(1), 0);
        C.due("hangs(2)", x.hangs(2), 8);
    }

    private static void hangsOfNoMatter() {
        C.of("HANGS, as bits. BAD");
        C.due("of no matters", new AnswersFirst().hangs(0), BAD);
        AnswersFirst x = Checks.withMatters(Checks.times("0110ya", 9));
        C.due("the last of nine", x.hangs(8), 0);
        C.due("behind it", x.hangs(9), BAD);
        x = Checks.withMatters(Checks.times("0110ya", 10));
        C.due("the last of ten", x.hangs(9), 0);
        C.due("behind it", x.hangs(10), BAD);
        x.type(0, ';');
        C.due("a fault", x.hangs(0), BAD);
    }

    private static void ringsOfThemselves() {
        C.of("RINGS: MATTERS that hang on themselves, as bits");
        C.due("of no matters", new AnswersFirst().rings(), 0);
        C.due("itself", Checks.withMatters(AGAINST_ITSELF).rings(), 1);
        C.due("all ten, each itself", each(10, "0110yy").rings(), 1023);
        C.due("all ten, one ring", Checks.withMatters(ring("ssssssssss")).rings(), 1023);
        C.due("on a ring, not in it", Checks.withMatters("0110yy1;0110yy1").rings(), 2);
        C.due("let off", with(ring("ss"), 3).rings(), 3);
        AnswersFirst x = Checks.withMatters("0110yy1;0111yy0");
        x.set(0, 1);
        C.due("known just by then", x.rings(), 3);
        Checks.say(x, 0, "0110yy1;0112yy0");
        C.due("not known by then", x.rings(), 0);
        C.due("one hangs on the other", x.hangs(1), 1);
    }
}
