/** Part 4 of the document and promises 25 to 32, a test for each sentence that names a boundary case. */
public final class ReplyEdgesTest {
    private static final int NONE = -1, BAD = -2, FULL = -4;
    private static final Checks C = new Checks();

    public static void main(String[] args) {
        lagToLagAndGrace();
        daysAtTheEnds();
        itGoesBack();
        oneAtMost();
        owedOfNoneAndOfAll();
        owedOfAPerson();
        lackOfNoneAndOfAll();
        lackOfLikeOnesTheFewest();
        unaskedOfNoneAndOfAll();
        finesAtTheEnds();
        eightSeenAtMost();
        seenOfAnyMatter();
        forgetNoneAndAll();
        refusedByNone();
        refusedMatters();
        lotOfNone();
        lotsThatWrap();
        lotsOneBehindTheOther();
        C.end();
    }

    private static String twoFigures(int n) {
        return "" + n / 10 + n % 10;
    }

    // ---- a LETTER can be that of a REPLY

    private static void canBe(int lag, int grace, int replyDay, int letterDay, boolean due) {
        AnswersFirst x = Checks.withReplies(twoFigures(replyDay) + "01", twoFigures(letterDay) + "10");
        x.set(0, lag);
        x.set(1, grace);
        String what = "LAG " + lag + ", GRACE " + grace + ", reply " + replyDay + ", letter " + letterDay;
        C.due(what + ": owed", x.owed(NONE), due ? 0 : 1);
        C.due(what + ": lack", x.lack(), due ? 0 : 1);
        C.due(what + ": unasked", x.unasked(), due ? 0 : 1);
    }

    private static void lagToLagAndGrace() {
        C.of("a LETTER can be that of a REPLY, if it goes back, LAG to LAG and GRACE days later");
        for (int lag : new int[] {1, 2, 9, 19, 20}) {
            for (int grace : new int[] {0, 1, 8, 9}) {
                canBe(lag, grace, 30, 30 + lag - 1, false);
                canBe(lag, grace, 30, 30 + lag, true);
                canBe(lag, grace, 30, 30 + lag + grace, true);
                canBe(lag, grace, 30, 30 + lag + grace + 1, false);
            }
        }
    }

    private static void daysAtTheEnds() {
        C.of("two figures: the DAY");
        canBe(1, 0, 0, 0, false);
        canBe(1, 0, 0, 1, true);
        canBe(1, 0, 98, 99, true);
        canBe(1, 9, 99, 99, false);
        canBe(1, 9, 99, 0, false);
        canBe(20, 9, 70, 99, true);
        canBe(20, 9, 69, 99, false);
        canBe(20, 9, 79, 99, true);
        canBe(20, 9, 80, 99, false);
        canBe(20, 9, 80, 0, false);
    }

    private static void itGoesBack() {
        C.of("if it goes back");
        for (int who = 0; who < 6; who++) {
            for (int to = 0; to < 6; to++) {
                if (who != to) {
                    AnswersFirst x = Checks.withReplies("0024", "09" + who + to);
                    C.due("letter from " + who + " to " + to, x.owed(NONE), who == 4 && to == 2 ? 0 : 1);
                }
            }
        }
    }

    private static void oneAtMost() {
        C.of("LAID: each LETTER to one REPLY at most, each REPLY has one at most: most of these");
        for (int replies = 0; replies <= 10; replies++) {
            for (int letters = 0; letters <= 10; letters += 5) {
                AnswersFirst x = Checks.withReplies(Checks.times("0001", replies), Checks.times("0910", letters));
                C.due(replies + " and " + letters, x.owed(NONE), Math.max(0, replies - letters));
            }
        }
        // Each reply may have its own letter or the one ahead of it; only one laying has them all.
        AnswersFirst x = Checks.withReplies("0001;0101;0201;0301", "1010;1110;1210;0910");
        x.set(1, 1);
        C.due("a chain", x.owed(NONE), 0);
        x.wipe(2);
        Checks.say(x, 2, "1010;1110;1210");
        C.due("a chain without its end", x.owed(NONE), 1);
    }

    // ---- OWED, LACK, UNASKED, FINES

    private static void owedOfNoneAndOfAll() {
        C.of("OWED; of all (person = NONE)");
        C.due("no replies", new AnswersFirst().owed(NONE), 0);
        C.due("no replies, letters", Checks.withReplies("", "0910").owed(NONE), 0);
        C.due("ten, no letters", Checks.withReplies(Checks.times("0001", 10), "").owed(NONE), 10);
        C.due("eleven: a fault", Checks.withReplies(Checks.times("0001", 11), "").owed(NONE), 0);
        C.due("eleven letters: a fault", Checks.withReplies("0001", Checks.times("0910", 11)).owed(NONE), 1);
        AnswersFirst x = Checks.withReplies("0001", "");
        C.due("owed(-2)", x.owed(-2), BAD);
        C.due("owed(6)", x.owed(6), BAD);
    }

    private static void owedOfAPerson() {
        C.of("of a PERSON TO whom they came");
        AnswersFirst x = Checks.withReplies("0010;0001;0002;0003;0004;0005;0015;0025", "0951;0920");
        int[] due = {1, 1, 0, 1, 1, 2};
        int sum = 0;
        for (int person = 0; person < 6; person++) {
            C.due("owed(" + person + ")", x.owed(person), due[person]);
            sum += due[person];
        }
        C.due("of all", x.owed(NONE), sum);
        for (int person = 0; person < 6; person++) {
            C.due("no replies", new AnswersFirst().owed(person), 0);
        }
        C.due("all ten", Checks.withReplies(Checks.times("0005", 10), "").owed(5), 10);
    }

    private static void lackOfNoneAndOfAll() {
        C.of("LACK: the set of REPLIES with most more than LETTERS that can be theirs");
        C.due("no replies", new AnswersFirst().lack(), 0);
        C.due("none owed", Checks.withReplies("0001;0101", "0910;1010").lack(), 0);
        C.due("ten, no letters", Checks.withReplies(Checks.times("0001", 10), "").lack(), 1023);
        C.due("ten, nine letters", Checks.withReplies(Checks.times("0001", 10), Checks.times("0910", 9)).lack(), 1023);
        C.due("ten, ten letters", Checks.withReplies(Checks.times("0001", 10), Checks.times("0910", 10)).lack(), 0);
        C.due("the last of ten", Checks.withReplies(Checks.times("0001", 9) + ";0101",
            Checks.times("0910", 9)).lack(), 512);
        AnswersFirst y = Checks.withReplies(Checks.times("0001", 10), "");
        C.due("ten", y.lack(), 1023);
        Checks.say(y, 1, "0001");
        C.due("one", y.lack(), 1);
        y.wipe(1);
        C.due("none", y.lack(), 0);
        C.of("(OWED is just how many more)");
        AnswersFirst x = Checks.withReplies("0001;0001;0001;0101;0102;0203", "0910;1010;1120");
        C.due("three with one letter, two with none", x.lack(), 1 + 2 + 4 + 16 + 32);
        C.due("owed", x.owed(NONE), 4);
    }

    private static void lackOfLikeOnesTheFewest() {
        C.of("of like ones the fewest, then the least bits");
        // 0 has a letter of its own, 1 and 2 have one together: with 0 it is no more than without.
        C.due("without the first", Checks.withReplies("0101;0001;0001", "1010;0910").lack(), 6);
        C.due("without the last", Checks.withReplies("0001;0001;0101", "1010;0910").lack(), 3);
        AnswersFirst x = Checks.withReplies("0001;0101;0201", "1010;0910");
        C.due("one without a letter", x.lack(), 4);
        x.set(1, 1);
        C.due("GRACE: three share two", x.lack(), 4);
        x.set(1, 9);
        C.due("more GRACE changes nothing for the last", x.lack(), 4);
    }

    private static void unaskedOfNoneAndOfAll() {
        C.of("UNASKED: LETTERS to which no REPLY can be, as bits");
        C.due("no letters", new AnswersFirst().unasked(), 0);
        C.due("no letters, replies", Checks.withReplies("0001", "").unasked(), 0);
        C.due("ten, no replies", Checks.withReplies("", Checks.times("0910", 10)).unasked(), 1023);
        C.due("ten for one reply", Checks.withReplies("0001", Checks.times("0910", 10)).unasked(), 0);
        C.due("the last of ten", Checks.withReplies("0001", Checks.times("0910", 9) + ";0810").unasked(), 512);
        C.due("a fault in the replies", Checks.withReplies("0001;", "0910;0910").unasked(), 3);
        C.due("a fault in the letters", Checks.withReplies("", "0910;0910;").unasked(), 0);
    }

    private static void finesAtTheEnds() {
        C.of("FINES: OWED of a PERSON times FINE (0 to 99; 5 at first)");
        AnswersFirst x = Checks.withReplies(Checks.times("0001", 10), "");
        C.due("ten, at first", x.fines(1), 50);
        C.due("none, at first", x.fines(0), 0);
        x.set(2, 99);
        C.due("ten, FINE 99", x.fines(1), 990);
        x.set(2, 1);
        C.due("ten, FINE 1", x.fines(1), 10);
        x.set(2, 0);
        C.due("ten, FINE 0", x.fines(1), 0);
        C.of("FINES. BAD");
        C.due("of all is none here", x.fines(NONE), BAD);
        C.due("fines(6)", x.fines(6), BAD);
    }

    // ---- SEEN, REFUSED

    private static void eightSeenAtMost() {
        C.of("SEEN, 8 at most");
        AnswersFirst x = new AnswersFirst();
        for (int n = 1; n <= 8; n++) {
            C.due("seen", x.seen(0, 1), n);
            C.due("count 6", x.count(6), n);
        }
        C.due("a ninth", x.seen(0, 1), FULL);
        C.due("count 6", x.count(6), 8);
        x.forget();
        C.due("again the first", x.seen(0, 1), 1);
    }

    private static void seenOfAnyMatter() {
        C.of("a MATTER (0 to 9) was WRITTEN (1), or not (0)");
        for (int m = 0; m < 10; m++) {
            AnswersFirst x = Checks.withMatters(Checks.times("0110ya", 10));
            C.due("seen(" + m + ", 1)", x.seen(m, 1), 1);
            C.due("it is so", x.refused(0), 1);
            C.due("seen(" + m + ", 0)", x.seen(m, 0), 2);
            C.due("it is not so", x.refused(0), 0);
            Checks.say(x, 0, Checks.times("0110ye", m));
            x.forget();
            x.seen(m, 0);
            C.due("one that there is not was not written", x.refused(0), 1);
            x.seen(m, 1);
            C.due("one that there is not was written", x.refused(0), 0);
        }
    }

    private static void forgetNoneAndAll() {
        C.of("All SEEN are forgotten: how many");
        AnswersFirst x = Checks.withMatters("0110ya");
        C.due("none", x.forget(), 0);
        for (int n = 1; n <= 8; n++) {
            for (int i = 0; i < n; i++) {
                x.seen(0, i & 1);
            }
            C.due("forget " + n, x.forget(), n);
            C.due("count 6", x.count(6), 0);
            C.due("nothing is left of it", x.refused(0), 1);
            C.due("none", x.forget(), 0);
        }
    }

    private static void refusedIs(AnswersFirst x, int rows, int bits) {
        C.due("refused(0)", x.refused(0), rows);
        C.due("refused(1)", x.refused(1), bits);
    }

    private static void refusedByNone() {
        C.of("MATTERS as bits (1; none of these: 0)");
        refusedIs(new AnswersFirst(), 1, 0);
        refusedIs(Checks.withMatters("0110ns0"), 0, 0);
        AnswersFirst x = Checks.withMatters(Checks.times("0110na", 10));
        refusedIs(x, 1, 1023);
        x.seen(0, 0);
        refusedIs(x, 0, 0);
        x.forget();
        x.seen(5, 1);
        x.seen(5, 0);
        refusedIs(x, 0, 0);
    }

    private static void refusedMatters() {
        C.of("MATTERS with a no that are WRITTEN in all of these, as bits");
        AnswersFirst x = Checks.withMatters("0110na;0110ya;0110ne;0110ye;0110ne");
        refusedIs(x, 1, 1);
        x.set(3, 1 + 4 + 16);
        refusedIs(x, 8, 0);
        x.seen(0, 1);
        refusedIs(x, 4, 1);
        x.seen(2, 0);
        refusedIs(x, 2, 1);
        x.seen(4, 1);
        refusedIs(x, 1, 17);
        x.seen(1, 1);
        refusedIs(x, 1, 17);
        x.seen(3, 1);
        refusedIs(x, 0, 0);
        C.of("ROWS that FIT THEMSELVES by which all that was SEEN is so");
        for (int is = 0; is < 2; is++) {
            x = Checks.withMatters(Checks.times("0110ne", 10));
            x.set(3, 1023);
            refusedIs(x, 1024, 0);
            for (int m = 0; m < 8; m++) {
                x.seen(m, is);
                refusedIs(x, 512 >> m, is == 1 ? (2 << m) - 1 : 0);
            }
        }
    }

    // ---- LOT

    /** The row by so many lots of 2, told with numbers that do not wrap. */
    private static int rowBy(long seed, int matters) {
        int row = 0;
        long now = seed;
        for (int m = 0; m < matters; m++) {
            now = Math.floorMod(1103515245L * now + 12345, 1L << 32);
            row |= (int) (now / 65536 % 2) << m;
        }
        return row;
    }

    private static void lotOfNone() {
        C.of("LOT: the ROW (n = 0), how many of n FIT THEMSELVES. BAD (n 0 to 99)");
        AnswersFirst x = new AnswersFirst();
        C.due("no matters, the row", x.lot(7, 0), 0);
        C.due("no matters, 1", x.lot(7, 1), 1);
        C.due("no matters, 99", x.lot(7, 99), 99);
        C.due("100", x.lot(7, 100), BAD);
        C.due("-1", x.lot(7, -1), BAD);
        x = Checks.withMatters("0110ys0");
        C.due("none fits, 1", x.lot(7, 1), 0);
        C.due("none fits, 99", x.lot(7, 99), 0);
        x.set(3, 1);
        C.due("each fits, 1", x.lot(7, 1), 1);
        C.due("each fits, 99", x.lot(7, 99), 99);
    }

    private static void lotsThatWrap() {
        C.of("SEED becomes 1103515245 SEED and 12345, as ints that wrap; its upper 16 bits as a number from 0 on, modulo m");
        int[] seeds = {0, 1, -1, 2, 7, 12345, 65535, 65536, Integer.MAX_VALUE, Integer.MIN_VALUE, Integer.MIN_VALUE + 1};
        for (int n = 0; n <= 10; n++) {
            AnswersFirst x = Checks.withMatters(Checks.times("0110ya", n));
            for (int seed : seeds) {
                C.due("lot(" + seed + ", 0) of " + n, x.lot(seed, 0), rowBy(seed, n));
                C.due("lot(" + seed + ", 1) of " + n, x.lot(seed, 1), rowBy(seed, n) == (1 << n) - 1 ? 1 : 0);
            }
        }
        // By hand.
        AnswersFirst x = Checks.withMatters("0110ya");
        C.due("lot(0, 0): 12345 has upper bits 0", x.lot(0, 0), 0);
        C.due("lot(1, 0): 1103527590 has upper bits 16838", x.lot(1, 0), 0);
        C.due("lot(-1, 0): -1103502900 has upper bits 48697", x.lot(-1, 0), 1);
    }

    private static void lotsOneBehindTheOther() {
        C.of("of n (1 to 99) one behind the other (the SEED going on) how many FIT THEMSELVES");
        AnswersFirst x = Checks.withMatters("0110ya");
        long seed = 7;
        int fit = 0;
        for (int n = 1; n <= 99; n++) {
            seed = Math.floorMod(1103515245L * seed + 12345, 1L << 32);
            fit += (int) (seed / 65536 % 2);
            C.due("lot(7, " + n + ")", x.lot(7, n), fit);
        }
        C.due("the same SEED, the same lots", x.lot(7, 99), fit);
    }
}
