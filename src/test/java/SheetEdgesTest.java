import java.math.BigInteger;

/** The sheets, and promises 33 to 40, a test for each sentence that names a boundary case. */
public final class SheetEdgesTest {
    private static final int NONE = -1, BAD = -2, LEAST_INT = Integer.MIN_VALUE, MOST_INT = Integer.MAX_VALUE;
    private static final Checks C = new Checks();

    public static void main(String[] args) {
        noneToFortyEightItems();
        zeroAtFirst();
        sheetsApart();
        loseHowMany();
        lowestBits();
        itemsAtTheEnds();
        leastIntAsAnItem();
        copyNone();
        copyToTheEnd();
        copyToItself();
        writeAsManyItems();
        writeAsManyRows();
        writeLowestBits();
        countAtFirst();
        countFull();
        latestFinding();
        digestOfANewObject();
        digestWithoutARow();
        digestWraps();
        digestOfEachCall();
        digestChangesNothing();
        C.end();
    }

    private static void itemsAre(AnswersFirst x, int s, int form, int... due) {
        for (int i = 0; i < due.length; i++) {
            C.due("item " + i + " of sheet " + s, x.get(s, form, i), due[i]);
        }
        C.due("no more items", x.put(s, form, due.length, 1), -12);
    }

    // ---- sheet, lose

    private static void noneToFortyEightItems() {
        C.of("or a row of a FORM: 0 bytes, 1 shorts, 2 ints, of 0 to 48 items");
        for (int s = 0; s < 4; s++) {
            for (int form = 0; form < 3; form++) {
                AnswersFirst x = new AnswersFirst();
                for (int n : new int[] {0, 1, 47, 48}) {
                    C.due("sheet(" + s + ", " + form + ", " + n + ")", x.sheet(s, form, n), n);
                    if (n > 0) {
                        C.due("the last item", x.put(s, form, n - 1, 7), 1);
                        C.due("the last item", x.get(s, form, n - 1), 7);
                    }
                    C.due("behind the last", x.put(s, form, n, 7), -12);
                    C.due("behind the last", x.get(s, form, n), LEAST_INT);
                }
                C.due("49", x.sheet(s, form, 49), BAD);
                C.due("it stays as it was", x.get(s, form, 47), 7);
                C.due("-1", x.sheet(s, form, -1), -15);
                C.due("it stays as it was", x.lose(s), 48);
                C.due("49, lost", x.sheet(s, form, 49), BAD);
                C.due("-1, lost", x.sheet(s, form, -1), -15);
                C.due("it stays lost", x.lose(s), -11);
            }
        }
    }

    private static void zeroAtFirst() {
        C.of("of 0 to 48 items (0 at first)");
        for (int form = 0; form < 3; form++) {
            AnswersFirst x = new AnswersFirst();
            x.sheet(0, form, 48);
            for (int i = 0; i < 48; i++) {
                C.due("item " + i, x.get(0, form, i), 0);
                x.put(0, form, i, -1);
            }
            x.sheet(0, form, 48);
            for (int i = 0; i < 48; i++) {
                C.due("item " + i + " of a new row", x.get(0, form, i), 0);
                x.put(0, form, i, -1);
            }
            x.lose(0);
            x.sheet(0, 2 - form, 48);
            for (int i = 0; i < 48; i++) {
                C.due("item " + i + " behind a loss", x.get(0, 2 - form, i), 0);
            }
        }
    }

    private static void sheetsApart() {
        C.of("SHEETS 0 .. 3");
        AnswersFirst x = new AnswersFirst();
        for (int s = 0; s < 4; s++) {
            x.sheet(s, s % 3, s + 1);
            x.put(s, s % 3, s, s + 10);
        }
        x.lose(1);
        x.sheet(2, 0, 2);
        itemsAre(x, 0, 0, 10);
        itemsAre(x, 2, 0, 0, 0);
        itemsAre(x, 3, 0, 0, 0, 0, 13);
        C.due("lost", x.lose(1), -11);
    }

    private static void loseHowMany() {
        C.of("It is LOST: how many items it had. BAD; NULL");
        AnswersFirst x = new AnswersFirst();
        for (int n : new int[] {0, 1, 48}) {
            x.sheet(3, 1, n);
            C.due("lose", x.lose(3), n);
            C.due("lose, lost", x.lose(3), -11);
        }
        C.due("lose(4)", x.lose(4), BAD);
        C.due("lose(-1)", x.lose(-1), BAD);
    }

    // ---- put, get

    private static void lowestBits() {
        C.of("becomes v (the lowest bits that it has): 1");
        AnswersFirst x = new AnswersFirst();
        for (int form = 0; form < 3; form++) {
            x.sheet(form, form, 1);
        }
        int[][] due = {{127, 127, 127, 127}, {128, -128, 128, 128}, {255, -1, 255, 255}, {256, 0, 256, 256},
            {-128, -128, -128, -128}, {-129, 127, -129, -129}, {32767, -1, 32767, 32767}, {32768, 0, -32768, 32768},
            {65535, -1, -1, 65535}, {65536, 0, 0, 65536}, {-32768, 0, -32768, -32768}, {-32769, -1, 32767, -32769},
            {MOST_INT, -1, -1, MOST_INT}, {LEAST_INT, 0, 0, LEAST_INT}, {LEAST_INT + 1, 1, 1, LEAST_INT + 1}};
        for (int[] one : due) {
            for (int form = 0; form < 3; form++) {
                C.due("put " + one[0], x.put(form, form, 0, one[0]), 1);
                C.due("get, as of form " + form, x.get(form, form, 0), one[1 + form]);
            }
        }
    }

    private static void itemsAtTheEnds() {
        C.of("INDEX: there is no such item");
        AnswersFirst x = new AnswersFirst();
        x.sheet(0, 2, 3);
        C.due("the first", x.put(0, 2, 0, 5), 1);
        C.due("the last", x.put(0, 2, 2, 6), 1);
        C.due("behind it", x.put(0, 2, 3, 7), -12);
        C.due("ahead of the first", x.put(0, 2, -1, 7), -12);
        itemsAre(x, 0, 2, 5, 0, 6);
        x.sheet(0, 2, 0);
        C.due("none at all", x.put(0, 2, 0, 7), -12);
    }

    private static void leastIntAsAnItem() {
        C.of("BAD: the least int; so are NULL, CAST, INDEX (count() 8 tells)");
        AnswersFirst x = new AnswersFirst();
        Checks.fill(x, 0, 2, LEAST_INT);
        C.due("an item", x.get(0, 2, 0), LEAST_INT);
        C.due("an item: no finding", x.count(8), 0);
        C.due("BAD", x.get(4, 2, 0), LEAST_INT);
        C.due("BAD", x.get(-1, 2, 0), LEAST_INT);
        C.due("BAD", x.get(0, 3, 0), LEAST_INT);
        C.due("BAD", x.get(0, -1, 0), LEAST_INT);
        C.due("BAD: no finding", x.count(8), 0);
        C.due("NULL", x.get(1, 2, 0), LEAST_INT);
        C.due("NULL: count 8", x.count(8), 1);
        C.due("INDEX", x.get(0, 2, 1), LEAST_INT);
        C.due("INDEX: count 8", x.count(8), 2);
        C.due("CAST", x.get(0, 1, 0), LEAST_INT);
        C.due("CAST: count 8", x.count(8), 3);
        C.due("an item", x.get(0, 2, 0), LEAST_INT);
        C.due("an item: the latest finding stays", x.count(8), 3);
    }

    // ---- copy

    private static void copyNone() {
        C.of("n items of SHEET s, from i on, come to SHEET t .., from j on: 1");
        AnswersFirst x = new AnswersFirst();
        Checks.fill(x, 0, 1, 1, 2, 3);
        Checks.fill(x, 1, 1, 4, 5);
        x.sheet(2, 1, 0);
        C.due("none, at the front", x.copy(0, 0, 1, 0, 0), 1);
        C.due("none, at the ends", x.copy(0, 3, 1, 2, 0), 1);
        C.due("none of none", x.copy(2, 0, 2, 0, 0), 1);
        C.due("none, to none", x.copy(0, 3, 2, 0, 0), 1);
        C.due("no finding", x.count(8), 0);
        C.due("none, behind the end of s", x.copy(0, 4, 1, 2, 0), -12);
        C.due("none, behind the end of t", x.copy(0, 3, 1, 3, 0), -12);
        C.due("none, ahead of s", x.copy(0, -1, 1, 0, 0), -12);
        C.due("none, ahead of t", x.copy(0, 0, 1, -1, 0), -12);
        C.due("one of none", x.copy(2, 0, 0, 0, 1), -12);
        C.due("one to none", x.copy(0, 0, 2, 0, 1), -12);
        itemsAre(x, 0, 1, 1, 2, 3);
        itemsAre(x, 1, 1, 4, 5);
    }

    private static void copyToTheEnd() {
        C.of("INDEX: below 0, not so many");
        for (int form = 0; form < 3; form++) {
            AnswersFirst x = new AnswersFirst();
            x.sheet(0, form, 48);
            x.sheet(1, form, 48);
            x.put(0, form, 0, 3);
            x.put(0, form, 47, 4);
            C.due("49", x.copy(0, 0, 1, 0, 49), -12);
            C.due("nothing came", x.get(1, form, 47), 0);
            C.due("all 48", x.copy(0, 0, 1, 0, 48), 1);
            C.due("the first", x.get(1, form, 0), 3);
            C.due("the last", x.get(1, form, 47), 4);
            C.due("the last to the first", x.copy(0, 47, 1, 0, 1), 1);
            C.due("the first", x.get(1, form, 0), 4);
            C.due("47 from 1 on", x.copy(0, 1, 1, 1, 47), 1);
            C.due("48 from 1 on", x.copy(0, 1, 1, 0, 48), -12);
            C.due("48 to 1 on", x.copy(0, 0, 1, 1, 48), -12);
            C.due("n below 0", x.copy(0, 1, 1, 1, -1), -12);
            C.due("sums that wrap", x.copy(0, 1, 1, 1, MOST_INT), -12);
            C.due("sums that wrap", x.copy(0, MOST_INT, 1, MOST_INT, MOST_INT), -12);
            C.due("sums that wrap", x.copy(0, MOST_INT, 1, MOST_INT, 1), -12);
        }
    }

    private static void copyToItself() {
        C.of("come to SHEET t (perhaps s, as they were)");
        for (int form = 0; form < 3; form++) {
            AnswersFirst x = new AnswersFirst();
            Checks.fill(x, 2, form, 1, 2, 3, 4, 5);
            C.due("up by one", x.copy(2, 0, 2, 1, 4), 1);
            itemsAre(x, 2, form, 1, 1, 2, 3, 4);
            Checks.fill(x, 2, form, 1, 2, 3, 4, 5);
            C.due("down by one", x.copy(2, 1, 2, 0, 4), 1);
            itemsAre(x, 2, form, 2, 3, 4, 5, 5);
            Checks.fill(x, 2, form, 1, 2, 3, 4, 5);
            C.due("up by two", x.copy(2, 0, 2, 2, 3), 1);
            itemsAre(x, 2, form, 1, 2, 1, 2, 3);
            C.due("to where they are", x.copy(2, 0, 2, 0, 5), 1);
            itemsAre(x, 2, form, 1, 2, 1, 2, 3);
        }
    }

    // ---- write

    private static void writeAsManyItems() {
        C.of("from the least on, come to a SHEET from item 0 on, as many as there are items and ROWS: how many");
        AnswersFirst x = Checks.withMatters(Checks.times("0110ye", 10));
        x.set(3, 1023);
        for (int n : new int[] {0, 1, 47, 48}) {
            x.sheet(0, 1, n);
            C.due("1024 rows, " + n + " items", x.write(0), n);
            if (n > 0) {
                C.due("the first", x.get(0, 1, 0), 0);
                C.due("the last", x.get(0, 1, n - 1), n - 1);
            }
        }
        x = Checks.withMatters("0110ya;0110ys2;0110ys1");
        Checks.fill(x, 3, 2, 9, 9);
        C.due("as many items as rows", x.write(3), 2);
        itemsAre(x, 3, 2, 3, 5);
    }

    private static void writeAsManyRows() {
        C.of("as many as there are items and ROWS: how many");
        AnswersFirst x = Checks.withMatters("0110ya;0110ys2;0110ys1");
        Checks.fill(x, 0, 0, 9, 9, 9, 9);
        C.due("two rows", x.write(0), 2);
        itemsAre(x, 0, 0, 3, 5, 9, 9);
        Checks.say(x, 0, "0110ys0");
        C.due("no rows", x.write(0), 0);
        itemsAre(x, 0, 0, 3, 5, 9, 9);
        x.wipe(0);
        C.due("no matters: one row", x.write(0), 1);
        itemsAre(x, 0, 0, 0, 5, 9, 9);
    }

    private static void writeLowestBits() {
        C.of("(the lowest bits that it has)");
        AnswersFirst x = Checks.withMatters(Checks.times("0110ya", 10));
        int[] due = {-1, 1023, 1023};
        for (int form = 0; form < 3; form++) {
            x.sheet(form, form, 2);
            C.due("write", x.write(form), 1);
            itemsAre(x, form, form, due[form], 0);
        }
        Checks.say(x, 0, Checks.times("0110ya", 8));
        C.due("255 as a byte", x.write(0) + x.get(0, 0, 0), 0);
        Checks.say(x, 0, Checks.times("0110ya", 7));
        C.due("127 as a byte", x.write(0) + x.get(0, 0, 0), 128);
    }

    // ---- count

    private static void countAtFirst() {
        C.of("8 the number of the latest FINDING (0 before any). BAD");
        AnswersFirst x = new AnswersFirst();
        int[] due = {0, 0, 0, 0, 0, 0, 0, 9, 0};
        for (int what = 0; what < due.length; what++) {
            C.due("count(" + what + ")", x.count(what), due[what]);
        }
        C.due("count(9)", x.count(9), BAD);
        C.due("count(-1)", x.count(-1), BAD);
    }

    private static void countFull() {
        C.of("0 MATTERS, 1 REPLIES, 2 LETTERS, 3 to 5 bytes of texts, 6 SEEN, 7 LAG");
        AnswersFirst x = Checks.withMatters(Checks.times("0110yy0", 10));
        Checks.say(x, 1, Checks.times("0001", 10));
        Checks.say(x, 2, Checks.times("0001", 10));
        for (int i = 0; i < 8; i++) {
            x.seen(0, 0);
        }
        x.set(0, 20);
        int[] due = {10, 10, 10, 79, 49, 49, 8, 20, 0};
        for (int what = 0; what < due.length; what++) {
            C.due("count(" + what + ")", x.count(what), due[what]);
        }
        for (int text = 0; text < 3; text++) {
            while (x.type(text, ';') > 0) {
                C.due("a fault: count(" + text + ")", x.count(text), 0);
            }
        }
        int[] full = {0, 0, 0, 80, 60, 60, 8, 20, 0};
        for (int what = 0; what < full.length; what++) {
            C.due("full: count(" + what + ")", x.count(what), full[what]);
        }
    }

    private static void latestFinding() {
        C.of("FINDINGS (answers -10 less the number; they change nothing but count() 8)");
        AnswersFirst x = new AnswersFirst();
        x.sheet(0, 0, 1);
        x.sheet(1, 1, 1);
        C.due("NULL", x.write(2), -11);
        C.due("NULL", x.count(8), 1);
        C.due("INDEX", x.put(0, 0, 1, 0), -12);
        C.due("INDEX", x.count(8), 2);
        C.due("CAST", x.put(0, 1, 0, 0), -13);
        C.due("CAST", x.count(8), 3);
        C.due("STORE", x.copy(0, 0, 1, 0, 1), -14);
        C.due("STORE", x.count(8), 4);
        C.due("SIZE", x.sheet(0, 0, -1), -15);
        C.due("SIZE", x.count(8), 5);
        C.due("BAD", x.sheet(0, 0, 49), BAD);
        C.due("NOT", x.undo(0), -3);
        C.due("well", x.put(0, 0, 0, 1), 1);
        C.due("well", x.lose(0), 1);
        C.due("the latest finding stays", x.count(8), 5);
        C.due("NULL again", x.lose(0), -11);
        C.due("NULL again", x.count(8), 1);
    }

    // ---- digest

    private static long mixed(long... values) {
        BigInteger h = BigInteger.valueOf(17);
        for (long v : values) {
            h = h.multiply(BigInteger.valueOf(31)).add(BigInteger.valueOf(v));
        }
        return h.longValue();
    }

    private static void digestOfANewObject() {
        C.of("h is 17; h becomes 31 h and each of: count() 0 to 7; ..; as longs that wrap");
        long[] values = new long[80];
        int n = 0;
        for (int v : new int[] {0, 0, 0, 0, 0, 0, 0, 9}) {
            values[n++] = v;
        }
        // fault(); rows(), sure(), cannot(), freed(), broken(), nearest(), steps(), returns(), rings()
        for (int v : new int[] {-1, -1, -1, 1, 0, -1, 0, 0, -1, -1, 0, 0, 0, 0, 0, 0, 0, 1, 1, 0}) {
            values[n++] = v;
        }
        // of six PERSONS six noughts each: nothing had or asked, the best is row 0, nothing owed
        n += 36;
        // open(), rest(), owed(), lack(), unasked(), refused(), lot()
        for (int v : new int[] {0, 1, 0, 0, 0, 1, 0, 0, 20}) {
            values[n++] = v;
        }
        C.due("digest()", new AnswersFirst().digest(), mixed(java.util.Arrays.copyOf(values, n)));
    }

    private static void digestWithoutARow() {
        C.of("rest(it, 0) of the first ROW (0, if there is none; as it is told)");
        AnswersFirst x = Checks.withMatters("0110ys0");
        // What it told then, mixed in as it is: NOT for row 0.
        C.due("rest(0, 0)", x.rest(0, 0), -3);
        C.due("digest()", x.digest(), DigestByCalls.of(x));
        x.set(3, 1);
        C.due("the first ROW is 0", x.rows(0), 0);
        C.due("rest(0, 0)", x.rest(0, 0), 0);
        C.due("digest()", x.digest(), DigestByCalls.of(x));
        x = Checks.withMatters("0110ya");
        C.due("rest(1, 0)", x.rest(1, 0), 1);
        C.due("digest()", x.digest(), DigestByCalls.of(x));
    }

    private static void digestWraps() {
        C.of("as longs that wrap");
        AnswersFirst x = Checks.withMatters(Checks.times("0110yy0", 10));
        C.due("ten matters", x.digest(), DigestByCalls.of(x));
        x.set(3, 1023);
        C.due("ten matters, let off", x.digest(), DigestByCalls.of(x));
        x.type(0, ';');
        C.due("a fault at 80", x.digest(), DigestByCalls.of(x));
        x = Checks.withMatters("0110ya;5499ns9;2300ye;1255yy0");
        Checks.say(x, 1, Checks.times("0001", 10));
        C.due("four matters, ten replies", x.digest(), DigestByCalls.of(x));
    }

    /** States in which each call that is mixed in would answer otherwise with any number next to the one told. */
    private static void digestOfEachCall() {
        C.of("broken() of 0, 5, 1023, nearest(5), steps(0, 3), returns(0, 0 and 1), .. had(1023, it, 20) .. lot(7, 20)");
        String days = "0120ya;0121na;0119ya;1029ya;1030ya;1028ye;2120yy2;3141ys9";
        AnswersFirst x = Checks.withMatters(days);
        C.isTrue("had by 20 is not by 19", x.had(1023, 1, 20) != x.had(1023, 1, 19));
        C.isTrue("had by 20 is not by 21", x.had(1023, 1, 20) != x.had(1023, 1, 21));
        C.isTrue("asked by 20 is not by 19", x.asked(1023, 0, 20) != x.asked(1023, 0, 19));
        C.isTrue("asked by 20 is not by 21", x.asked(1023, 0, 20) != x.asked(1023, 0, 21));
        C.isTrue("open on 20 is not on 19", x.open(1023, 20) != x.open(1023, 19));
        C.isTrue("open on 20 is not on 21", x.open(1023, 20) != x.open(1023, 21));
        C.due("days about 20", x.digest(), DigestByCalls.of(x));
        x = Checks.withMatters("0121ya");
        C.due("open in 1023, its first", x.open(1023, 20), 1);
        C.due("open in 1022", x.open(1022, 20), 0);
        C.due("its first", x.digest(), DigestByCalls.of(x));
        x = Checks.withMatters("0110ya;0110ys2;0110yy1;0110ys4;0110yy3");
        C.due("two cannot be", x.cannot(0), 2);
        C.due("these", x.cannot(1), 6);
        C.due("two to be freed", x.freed(0), 2);
        C.due("these", x.freed(1), 10);
        C.due("both are in it", x.digest(), DigestByCalls.of(x));
        x = Checks.withMatters("0110yy1;0110yy0");
        C.due("returns(0, 1)", x.returns(0, 1), 1);
        C.due("returns(1, 1)", x.returns(1, 1), 2);
        C.due("a ring of two", x.digest(), DigestByCalls.of(x));
        x = Checks.withMatters("0110ys0;0110yy0");
        C.isTrue("steps(0, 3) is not steps(0, 2)", x.steps(0, 3) != x.steps(0, 2));
        C.isTrue("steps(0, 3) is not steps(0, 4)", x.steps(0, 3) != x.steps(0, 4));
        C.due("steps", x.digest(), DigestByCalls.of(x));
        x = Checks.withMatters("0110ys1;0110ya");
        C.due("returns(0, 0)", x.returns(0, 0), 3);
        C.due("returns(0, 1)", x.returns(0, 1), 1);
        C.due("a line", x.digest(), DigestByCalls.of(x));
    }

    private static void digestChangesNothing() {
        C.of("count() 0 to 7");
        AnswersFirst x = Checks.withMatters("0110ys0");
        long first = x.digest();
        C.due("no finding by it", x.count(8), 0);
        x.sheet(0, 0, -1);
        x.sheet(1, 2, 5);
        C.due("neither findings nor sheets are in it", x.digest(), first);
        C.due("the finding stays", x.count(8), 5);
        x.seen(9, 0);
        C.isTrue("what was seen is in it", x.digest() != first);
        x.forget();
        C.due("forgotten", x.digest(), first);
    }
}
