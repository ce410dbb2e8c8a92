/** Promises 33 to 40: sheets, count, digest. */
public final class SheetsTest {
    private static final int LEAST = Integer.MIN_VALUE;
    private static final Checks C = new Checks();

    public static void main(String[] args) {
        sheet();
        lose();
        putAndGet();
        findingsInOrder();
        copy();
        write();
        count();
        digest();
        C.end();
    }

    private static void sheet() {
        AnswersFirst x = new AnswersFirst();
        C.due("sheet(0, 0, 48)", x.sheet(0, 0, 48), 48);
        C.due("sheet(3, 2, 0)", x.sheet(3, 2, 0), 0);
        x.put(0, 0, 5, 7);
        C.due("sheet, above 48", x.sheet(0, 0, 49), -2);
        C.due("sheet, no such sheet", x.sheet(4, 0, 1), -2);
        C.due("sheet, no such sheet", x.sheet(-1, 0, 1), -2);
        C.due("sheet, no such form", x.sheet(0, 3, 1), -2);
        C.due("sheet, no such form", x.sheet(0, -1, 1), -2);
        C.due("no finding yet", x.count(8), 0);
        C.due("sheet, below 0", x.sheet(0, 0, -1), -15);
        C.due("sheet, below 0: count(8)", x.count(8), 5);
        C.due("sheet, bad ahead of below 0", x.sheet(4, 0, -1), -2);
        C.due("refused, it stays", x.get(0, 0, 5), 7);
        C.due("a new one", x.sheet(0, 0, 48), 48);
        C.due("a new one: 0", x.get(0, 0, 5), 0);
        C.due("another form", x.sheet(0, 1, 6), 6);
        C.due("another form: 0", x.get(0, 1, 5), 0);
        C.due("another form, fewer items", x.get(0, 1, 6), LEAST);
    }

    private static void lose() {
        AnswersFirst x = new AnswersFirst();
        x.sheet(1, 1, 7);
        C.due("lose(1)", x.lose(1), 7);
        C.due("lose(1), lost", x.lose(1), -11);
        C.due("lose: count(8)", x.count(8), 1);
        C.due("lose(4)", x.lose(4), -2);
        C.due("lose(-1)", x.lose(-1), -2);
        x.sheet(1, 1, 0);
        C.due("lose(1), no items", x.lose(1), 0);
    }

    private static void putAndGet() {
        AnswersFirst x = new AnswersFirst();
        for (int form = 0; form < 3; form++) {
            x.sheet(form, form, 3);
        }
        int[] values = {0, 1, -1, 127, 128, 255, 256, 32767, 32768, 65535, 65536, LEAST, Integer.MAX_VALUE};
        for (int v : values) {
            C.due("put, a byte", x.put(0, 0, 2, v), 1);
            C.due("get, a byte", x.get(0, 0, 2), (byte) v);
            C.due("put, a short", x.put(1, 1, 1, v), 1);
            C.due("get, a short", x.get(1, 1, 1), (short) v);
            C.due("put, an int", x.put(2, 2, 0, v), 1);
            C.due("get, an int", x.get(2, 2, 0), v);
        }
        C.due("its neighbour stays", x.get(0, 0, 1), 0);
        C.due("no finding", x.count(8), 0);
    }

    private static void findingsInOrder() {
        refusedWith(4, 0, 0, -2);
        refusedWith(-1, 0, 0, -2);
        refusedWith(0, 3, 9, -2);
        refusedWith(1, -1, 9, -2);
        refusedWith(1, 0, 99, -11);
        refusedWith(0, 0, 99, -13);
        refusedWith(0, 2, 0, -13);
        refusedWith(0, 1, 3, -12);
        refusedWith(0, 1, -1, -12);
        refusedWith(0, 1, LEAST, -12);
    }

    /** Sheet 0 has three shorts, the others are lost, and the latest finding is 5. */
    private static void refusedWith(int s, int form, int i, int due) {
        AnswersFirst x = new AnswersFirst();
        x.sheet(0, 1, 3);
        int finding = due == -2 ? 5 : -10 - due;
        String where = "(" + s + ", " + form + ", " + i + ")";
        x.sheet(3, 0, -1);
        C.due("put" + where, x.put(s, form, i, 1), due);
        C.due("put" + where + ": count(8)", x.count(8), finding);
        x.sheet(3, 0, -1);
        C.due("get" + where, x.get(s, form, i), LEAST);
        C.due("get" + where + ": count(8)", x.count(8), finding);
    }

    private static void copy() {
        AnswersFirst x = new AnswersFirst();
        x.sheet(0, 0, 5);
        x.sheet(1, 0, 3);
        x.sheet(2, 1, 5);
        for (int i = 0; i < 5; i++) {
            x.put(0, 0, i, i + 1);
        }
        C.due("copy to another", x.copy(0, 1, 1, 0, 3), 1);
        itemsAre(x, 1, 0, 2, 3, 4);
        C.due("copy up, as they were", x.copy(0, 0, 0, 1, 4), 1);
        itemsAre(x, 0, 0, 1, 1, 2, 3, 4);
        C.due("copy down, as they were", x.copy(0, 1, 0, 0, 4), 1);
        itemsAre(x, 0, 0, 1, 2, 3, 4, 4);
        C.due("copy none, at the end", x.copy(0, 5, 1, 3, 0), 1);
        C.due("copy none, behind the end", x.copy(0, 6, 1, 0, 0), -12);
        C.due("copy, not so many in s", x.copy(0, 3, 1, 0, 3), -12);
        C.due("copy, not so many in t", x.copy(0, 0, 1, 1, 3), -12);
        C.due("copy, i below 0", x.copy(0, -1, 1, 0, 1), -12);
        C.due("copy, j below 0", x.copy(0, 0, 1, -1, 1), -12);
        C.due("copy, n below 0", x.copy(0, 1, 1, 1, -1), -12);
        C.due("copy, n far too many", x.copy(0, 1, 1, 1, Integer.MAX_VALUE), -12);
        C.due("copy, i far too many", x.copy(0, Integer.MAX_VALUE, 1, 1, 1), -12);
        C.due("copy, j far too many", x.copy(0, 1, 1, Integer.MAX_VALUE, Integer.MAX_VALUE), -12);
        C.due("copy: count(8)", x.count(8), 2);
        C.due("copy, unlike forms ahead of INDEX", x.copy(0, -1, 2, 0, 1), -14);
        C.due("copy: count(8)", x.count(8), 4);
        C.due("copy, t lost", x.copy(0, 0, 3, 0, 1), -11);
        C.due("copy, s lost", x.copy(3, 0, 2, 0, 1), -11);
        C.due("copy: count(8)", x.count(8), 1);
        C.due("copy, no sheet s, ahead of t lost", x.copy(4, 0, 3, 0, 1), -2);
        C.due("copy, no sheet t, ahead of s lost", x.copy(3, 0, -1, 0, 1), -2);
        itemsAre(x, 1, 0, 2, 3, 4);
    }

    private static void itemsAre(AnswersFirst x, int s, int form, int... due) {
        for (int i = 0; i < due.length; i++) {
            C.due("item " + i, x.get(s, form, i), due[i]);
        }
    }

    private static void write() {
        AnswersFirst x = Checks.withMatters("0110ys1;0110ys0;0110ya");
        C.due("write, lost", x.write(0), -11);
        C.due("write: count(8)", x.count(8), 1);
        C.due("write(4)", x.write(4), -2);
        C.due("write(-1)", x.write(-1), -2);
        x.sheet(0, 0, 4);
        x.put(0, 0, 2, 99);
        C.due("write, two rows", x.write(0), 2);
        itemsAre(x, 0, 0, 5, 6, 99, 0);
        x.sheet(0, 2, 1);
        C.due("write, one item", x.write(0), 1);
        itemsAre(x, 0, 2, 5);
        x.sheet(0, 2, 0);
        C.due("write, no items", x.write(0), 0);
        Checks.say(x, 0, Checks.times("0110ya", 10));
        for (int form = 0; form < 3; form++) {
            x.sheet(form, form, 1);
            C.due("write, 1023", x.write(form), 1);
        }
        itemsAre(x, 0, 0, -1);
        itemsAre(x, 1, 1, 1023);
        itemsAre(x, 2, 2, 1023);
        x.set(3, 1023);
        x.sheet(3, 1, 48);
        C.due("write, 48 of 1024", x.write(3), 48);
        C.due("write, the last", x.get(3, 1, 47), 47);
        Checks.say(x, 0, "0110ys0");
        x.set(3, 0);
        C.due("write, no rows", x.write(3), 0);
    }

    private static void count() {
        AnswersFirst x = Checks.withMatters("0110ys1;0110ys0;0110ya");
        Checks.say(x, 1, "0001;0102");
        Checks.say(x, 2, "0001");
        x.seen(0, 0);
        x.seen(0, 1);
        x.set(0, 12);
        x.lose(0);
        int[] due = {3, 2, 1, 22, 9, 4, 2, 12, 1};
        for (int what = 0; what < due.length; what++) {
            C.due("count(" + what + ")", x.count(what), due[what]);
        }
        C.due("count(-1)", x.count(-1), -2);
        C.due("count(9)", x.count(9), -2);
    }

    private static void digest() {
        digestIsAsTold("new", new AnswersFirst());
        AnswersFirst x = Checks.withMatters("0110ya;1210ny0;2011yn1;0312ys2;1205ne");
        digestIsAsTold("matters", x);
        Checks.say(x, 1, "0001;0001;0210;0512;0401");
        Checks.say(x, 2, "0910;1010;1101;1421");
        digestIsAsTold("replies", x);
        x.set(2, 7);
        x.set(1, 1);
        x.worth(0, -3);
        x.seen(3, 0);
        digestIsAsTold("settings", x);
        x = Checks.withReplies("0001;0001;0210;0512;0401", "0910;1010;1101;1421");
        Checks.say(x, 0, "0110ys1;1210yy0;2010na");
        C.due("no row", x.rows(-1), 0);
        digestIsAsTold("no row", x);
        x.set(3, 1);
        digestIsAsTold("let off", x);
        x = Checks.withMatters("0110ya;0110ys1;0110ys2");
        C.due("two to be freed", x.freed(0), 2);
        digestIsAsTold("two to be freed", x);
        x = Checks.withMatters("0120ya;0121ya;1029ya;1030ya;1020ys4;1330yy5;0330nn6");
        digestIsAsTold("days about 20", x);
        x.set(3, 127);
        C.due("row 0 fits", x.rows(0), 0);
        digestIsAsTold("row 0 fits", x);
        x.type(1, '0');
        digestIsAsTold("a fault", x);
        long before = x.digest();
        x.lose(0);
        C.due("a finding is not in it", x.digest(), before);
        C.due("it leaves the finding", x.count(8), 1);
    }

    private static void digestIsAsTold(String what, AnswersFirst x) {
        C.due("digest(), " + what, x.digest(), DigestByCalls.of(x));
    }
}
