/** Promises 25 to 32: replies and letters, what was seen, lots. */
public final class RepliesTest {
    private static final Checks C = new Checks();

    public static void main(String[] args) {
        owed();
        lack();
        unasked();
        fines();
        seenAndForget();
        refused();
        lot();
        C.end();
    }

    private static void owed() {
        C.due("owed, the letter in time", Checks.withReplies("0001", "0910").owed(-1), 0);
        C.due("owed, a day early", Checks.withReplies("0001", "0810").owed(-1), 1);
        C.due("owed, a day late", Checks.withReplies("0001", "1010").owed(-1), 1);
        C.due("owed, not back", Checks.withReplies("0001", "0901").owed(-1), 1);
        C.due("owed, to another", Checks.withReplies("0001", "0912").owed(-1), 1);
        C.due("owed, from another", Checks.withReplies("0001", "0920").owed(-1), 1);
        C.due("owed, one letter for two", Checks.withReplies("0001;0001", "0910").owed(-1), 1);
        C.due("owed, nothing", Checks.withReplies("", "0910").owed(-1), 0);
        AnswersFirst x = Checks.withReplies("0001;0021;0302;0302", "1010;1110");
        C.due("owed, none in time", x.owed(-1), 4);
        x.set(1, 1);
        C.due("owed, GRACE", x.owed(-1), 3);
        int[] due = {0, 1, 2, 0, 0, 0};
        for (int person = 0; person < 6; person++) {
            C.due("owed(" + person + ")", x.owed(person), due[person]);
        }
        x.set(0, 10);
        x.set(1, 0);
        C.due("owed, LAG", x.owed(1), 1);
        C.due("owed(-2)", x.owed(-2), -2);
        C.due("owed(6)", x.owed(6), -2);
        // The first may take either letter, the second only the earlier one: no greedy laying.
        x = Checks.withReplies("0001;0101", "1010;1110");
        x.set(1, 2);
        C.due("owed, each has one", x.owed(-1), 0);
        x = Checks.withReplies("0201;0001", "1110;1210");
        x.set(1, 2);
        C.due("owed, each has one, turned", x.owed(-1), 0);
        C.due("owed, a fault in the replies", Checks.withReplies("0001;", "0910").owed(-1), 0);
        C.due("owed, a fault in the letters", Checks.withReplies("0001", "0910;").owed(-1), 1);
    }

    private static void lack() {
        C.due("lack, none", Checks.withReplies("0001", "0910").lack(), 0);
        C.due("lack, no replies", Checks.withReplies("", "0910").lack(), 0);
        C.due("lack, all of them", Checks.withReplies("0001;0101", "").lack(), 3);
        C.due("lack, three on one letter", Checks.withReplies("0001;0001;0001;0102", "0910;1020").lack(), 7);
        C.due("lack, the fewest", Checks.withReplies("0201;0001;0001", "1110;0910").lack(), 6);
        C.due("lack, of two persons", Checks.withReplies("0001;0002;0001;0002", "0910;0920").lack(), 15);
        AnswersFirst x = Checks.withReplies("0001;0201;0201;0501", "0910;1110");
        C.due("lack", x.lack(), 14);
        x.set(1, 2);
        C.due("lack, of like ones the fewest", x.lack(), 14);
    }

    private static void unasked() {
        C.due("unasked, all", Checks.withReplies("", "0910;1010").unasked(), 3);
        C.due("unasked, the second", Checks.withReplies("0001", "0910;1010;0901").unasked(), 6);
        C.due("unasked, two for one reply", Checks.withReplies("0001", "0910;0910").unasked(), 0);
        AnswersFirst x = Checks.withReplies("0001;0101", Checks.times("1310", 10));
        C.due("unasked, ten", x.unasked(), 1023);
        x.set(1, 3);
        C.due("unasked, GRACE", x.unasked(), 0);
        x.set(0, 13);
        x.set(1, 0);
        C.due("unasked, LAG", x.unasked(), 0);
        x.wipe(2);
        C.due("unasked, no letters", x.unasked(), 0);
    }

    private static void fines() {
        AnswersFirst x = Checks.withReplies("0001;0021;0102;0203", "0910");
        int[] owed = {0, 1, 1, 1, 0, 0};
        for (int person = 0; person < 6; person++) {
            C.due("fines(" + person + ")", x.fines(person), 5 * owed[person]);
        }
        x.set(2, 99);
        C.due("fines(1), FINE 99", x.fines(1), 99);
        x.set(2, 0);
        C.due("fines(1), FINE 0", x.fines(1), 0);
        C.due("fines(-1)", x.fines(-1), -2);
        C.due("fines(6)", x.fines(6), -2);
        Checks.say(x, 1, Checks.times("0001", 10));
        x.set(2, 99);
        C.due("fines(1), nine owed", x.fines(1), 9 * 99);
    }

    private static void seenAndForget() {
        AnswersFirst x = new AnswersFirst();
        C.due("forget(), nothing", x.forget(), 0);
        for (int i = 1; i <= 8; i++) {
            C.due("seen", x.seen(i, i & 1), i);
        }
        C.due("seen, a ninth", x.seen(0, 0), -4);
        C.due("seen, bad ahead of full", x.seen(10, 0), -2);
        C.due("seen, bad ahead of full", x.seen(0, 2), -2);
        C.due("count(6)", x.count(6), 8);
        C.due("forget()", x.forget(), 8);
        C.due("count(6), forgotten", x.count(6), 0);
        C.due("seen(-1, 0)", x.seen(-1, 0), -2);
        C.due("seen(0, -1)", x.seen(0, -1), -2);
        C.due("seen(9, 1)", x.seen(9, 1), 1);
        C.due("seen again, as one more", x.seen(9, 1), 2);
    }

    private static void refused() {
        // Rows: 1 + 8 + 16 and 2 + 8 + 16; 3 and 4 are always written, 4 with a no.
        AnswersFirst x = Checks.withMatters("0110ns1;0110ns0;0110ye;0110ya;0110na");
        refusedIs(x, 2, 16);
        x.seen(0, 1);
        refusedIs(x, 1, 17);
        x.seen(1, 0);
        refusedIs(x, 1, 17);
        x.seen(9, 0);
        refusedIs(x, 1, 17);
        x.seen(2, 1);
        refusedIs(x, 0, 0);
        x.forget();
        x.seen(1, 1);
        refusedIs(x, 1, 18);
        x.seen(1, 0);
        refusedIs(x, 0, 0);
        x.forget();
        x.seen(9, 1);
        refusedIs(x, 0, 0);
        x.forget();
        refusedIs(x, 2, 16);
        C.due("refused(-1)", x.refused(-1), -2);
        C.due("refused(2)", x.refused(2), -2);
        Checks.say(x, 0, "0110ns0");
        refusedIs(x, 0, 0);
    }

    private static void refusedIs(AnswersFirst x, int rows, int bits) {
        C.due("refused(0)", x.refused(0), rows);
        C.due("refused(1)", x.refused(1), bits);
    }

    private static void lot() {
        AnswersFirst x = Checks.withMatters("0110ys1;0110ys0;0110ya");
        // Worked out apart: from SEED 7 the lots of 2, one by one.
        long seed = 7;
        int[] bits = new int[300];
        for (int i = 0; i < bits.length; i++) {
            seed = seed * 1103515245L + 12345L & 0xffffffffL;
            bits[i] = (int) (seed >> 16) % 2;
        }
        C.due("lot(7, 0)", x.lot(7, 0), bits[0] + 2 * bits[1] + 4 * bits[2]);
        int fitting = 0;
        for (int n = 1; n <= 99; n++) {
            int row = bits[3 * n - 3] + 2 * bits[3 * n - 2] + 4 * bits[3 * n - 1];
            fitting += row == 5 || row == 6 ? 1 : 0;
            C.due("lot(7, " + n + ")", x.lot(7, n), fitting);
        }
        C.due("lot, the same again", x.lot(7, 99), fitting);
        C.due("lot(7, -1)", x.lot(7, -1), -2);
        C.due("lot(7, 100)", x.lot(7, 100), -2);
        C.due("lot(-1, 0)", x.lot(-1, 0), rowFrom(-1, 3));
        C.due("lot(min, 0)", x.lot(Integer.MIN_VALUE, 0), rowFrom(Integer.MIN_VALUE, 3));
        Checks.say(x, 0, Checks.times("0110ya", 10));
        C.due("lot of ten", x.lot(12345, 0), rowFrom(12345, 10));
        x.wipe(0);
        C.due("lot of none", x.lot(12345, 0), 0);
        C.due("lot of none, 99 times", x.lot(12345, 99), 99);
    }

    private static int rowFrom(int seed, int matters) {
        long now = seed;
        int row = 0;
        for (int m = 0; m < matters; m++) {
            now = Math.floorMod(now * 1103515245L + 12345L, 1L << 32);
            row += (int) (now / 65536 % 2) << m;
        }
        return row;
    }
}
