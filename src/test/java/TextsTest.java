/** Promises 1 to 9: the new object, texts, settings, worth, what is read. */
public final class TextsTest {
    private static final Checks C = new Checks();

    public static void main(String[] args) {
        newObject();
        type();
        wipeAndUndo();
        changesAreSeen();
        faultOfMatters();
        faultOfLetters();
        matter();
        set();
        worth();
        read();
        readKeepsSeen();
        C.end();
    }

    private static void newObject() {
        AnswersFirst x = new AnswersFirst();
        int[] counts = {0, 0, 0, 0, 0, 0, 0, 9, 0};
        for (int what = 0; what < counts.length; what++) {
            C.due("new: count(" + what + ")", x.count(what), counts[what]);
        }
        for (int text = 0; text < 3; text++) {
            C.due("new: fault", x.fault(text), AnswersFirst.NONE);
        }
        for (int s = 0; s < 4; s++) {
            C.due("new: lose", x.lose(s), -11);
        }
        C.due("new: rows(-1)", new AnswersFirst().rows(-1), 1);
        C.due("new: rows(0)", new AnswersFirst().rows(0), 0);
        C.due("new: lack()", new AnswersFirst().lack(), 0);
        C.due("NONE", AnswersFirst.NONE, -1);
        C.due("BAD", AnswersFirst.BAD, -2);
        C.due("NOT", AnswersFirst.NOT, -3);
        C.due("FULL", AnswersFirst.FULL, -4);
    }

    private static void type() {
        AnswersFirst x = new AnswersFirst();
        int[] most = {80, 60, 60};
        for (int text = 0; text < 3; text++) {
            for (int i = 1; i <= most[text]; i++) {
                C.due("type", x.type(text, 255), i);
            }
            C.due("type: full", x.type(text, 0), -4);
            C.due("type: bad ahead of full", x.type(text, 256), -2);
            C.due("type: refused, nothing changes", x.count(3 + text), most[text]);
        }
        C.due("type(-1, 0)", x.type(-1, 0), -2);
        C.due("type(3, 0)", x.type(3, 0), -2);
        x.wipe(0);
        C.due("type(0, -1)", x.type(0, -1), -2);
        C.due("type(0, 256)", x.type(0, 256), -2);
        C.due("type(0, 0)", x.type(0, 0), 1);
        C.due("byte 0 is a fault", x.fault(0), 0);
        C.due("a byte above 127 is no figure", wellWith(x, 0, (char) 176), 0);
    }

    private static int wellWith(AnswersFirst x, int text, char first) {
        Checks.say(x, text, first + "110ya");
        return x.fault(text);
    }

    private static void wipeAndUndo() {
        AnswersFirst x = Checks.withMatters("0110ya");
        C.due("undo(0)", x.undo(0), 5);
        C.due("undone: fault", x.fault(0), 5);
        C.due("undone: count(0)", x.count(0), 0);
        x.type(0, 'a');
        C.due("again: count(0)", x.count(0), 1);
        C.due("wipe(0)", x.wipe(0), 6);
        C.due("wiped: count(0)", x.count(0), 0);
        C.due("wipe(0) again", x.wipe(0), 0);
        C.due("undo(0), empty", x.undo(0), -3);
        for (int text : new int[] {-1, 3, Integer.MIN_VALUE, Integer.MAX_VALUE}) {
            C.due("wipe, no such text", x.wipe(text), -2);
            C.due("undo, no such text", x.undo(text), -2);
            C.due("fault, no such text", x.fault(text), -2);
        }
        Checks.say(x, 2, "1001");
        C.due("undo(2)", x.undo(2), 3);
        C.due("wipe(2)", x.wipe(2), 3);
    }

    /** What was worked out for a text does not outlive a change of it. */
    private static void changesAreSeen() {
        AnswersFirst x = Checks.withMatters("0110ya");
        C.due("rows(0)", x.rows(0), 1);
        for (char sign : ";0110ya".toCharArray()) {
            x.type(0, sign);
            C.due("rows(0), typing", x.rows(0), x.fault(0) == -1 ? 3 : 0);
        }
        for (int left = 12; left >= 6; left--) {
            C.due("undo(0)", x.undo(0), left);
            C.due("rows(0), undoing", x.rows(0), left == 6 ? 1 : 0);
        }
        x.wipe(0);
        C.due("rows(0), wiped", x.rows(0), 0);
        Checks.say(x, 1, "0001");
        C.due("owed(-1)", x.owed(-1), 1);
        for (char sign : "0910".toCharArray()) {
            x.type(2, sign);
            C.due("owed(-1), typing", x.owed(-1), x.count(2) == 1 ? 0 : 1);
        }
        x.undo(1);
        C.due("owed(-1), undone", x.owed(-1), 0);
        C.due("unasked(), undone", x.unasked(), 1);
        x.type(1, '1');
        C.due("unasked(), typed again", x.unasked(), 0);
        x.wipe(1);
        C.due("unasked(), wiped", x.unasked(), 1);
    }

    private static void faultOfMatters() {
        faultIs(0, "", -1);
        faultIs(0, "0110ya", -1);
        faultIs(0, "5499ns9", -1);
        faultIs(0, "6110ya", 0);
        faultIs(0, "/110ya", 0);
        faultIs(0, ";", 0);
        faultIs(0, "0610ya", 1);
        faultIs(0, "0010ya", 1);
        faultIs(0, "0", 1);
        faultIs(0, "01:0ya", 2);
        faultIs(0, "011;ya", 3);
        faultIs(0, "0110sa", 4);
        faultIs(0, "0110", 4);
        faultIs(0, "0110yA", 5);
        faultIs(0, "0110y", 5);
        faultIs(0, "0110yy", 6);
        faultIs(0, "0110yy:", 6);
        faultIs(0, "0110ya0", 6);
        faultIs(0, "0110ye;", 7);
        faultIs(0, "0110ys0;", 8);
        faultIs(0, "0110yn0;1", 9);
        faultIs(0, "0110yn0;11", 9);
        faultIs(0, "0110yn0;12", 10);
        faultIs(0, Checks.times("0110yy0", 10), -1);
        faultIs(0, Checks.times("0110ya", 10) + ";", 70);
        faultIs(0, Checks.times("0110ya", 11), 70);
        faultIs(0, Checks.times("0110ya", 10) + ",", 69);
        faultIs(0, Checks.times("0110yy0", 10) + ";", 80);
        AnswersFirst x = Checks.withMatters(Checks.times("0110ya", 11));
        C.due("a fault: as if empty", x.count(0), 0);
        C.due("a fault: rows()", x.rows(-1), 1);
        C.due("a fault: matter()", x.matter(0, 0), -2);
    }

    private static void faultOfLetters() {
        for (int text = 1; text <= 2; text++) {
            faultIs(text, "", -1);
            faultIs(text, "0001", -1);
            faultIs(text, "9954", -1);
            faultIs(text, "a001", 0);
            faultIs(text, "0", 1);
            faultIs(text, "0061", 2);
            faultIs(text, "0006", 3);
            faultIs(text, "0055", 3);
            faultIs(text, "000", 3);
            faultIs(text, "00010", 4);
            faultIs(text, "0001;", 5);
            faultIs(text, "0001;00", 7);
            faultIs(text, Checks.times("0001", 10), -1);
            faultIs(text, Checks.times("0001", 10) + ";", 50);
            faultIs(text, Checks.times("0001", 11), 50);
        }
        AnswersFirst x = new AnswersFirst();
        Checks.say(x, 1, "0001;1001");
        Checks.say(x, 2, "0901;1011;");
        C.due("count(1)", x.count(1), 2);
        C.due("count(2), a fault", x.count(2), 0);
    }

    private static void faultIs(int text, String signs, int place) {
        AnswersFirst x = new AnswersFirst();
        Checks.say(x, text, signs);
        C.due("fault of " + signs, x.fault(text), place);
    }

    private static void matter() {
        AnswersFirst x = Checks.withMatters("0110ya;5407ne;2399yy0;1200nn9;3155ys3");
        int[][] due = {
            {0, 1, 10, 1, 0, -1}, {5, 4, 7, 0, 1, -1}, {2, 3, 99, 1, 2, 0}, {1, 2, 0, 0, 3, 9}, {3, 1, 55, 1, 4, 3}
        };
        for (int m = 0; m < due.length; m++) {
            for (int what = 0; what < 6; what++) {
                C.due("matter(" + m + ", " + what + ")", x.matter(m, what), due[m][what]);
            }
            C.due("matter(.., 6)", x.matter(m, 6), -2);
            C.due("matter(.., -1)", x.matter(m, -1), -2);
        }
        C.due("matter(5, 0)", x.matter(5, 0), -2);
        C.due("matter(-1, 0)", x.matter(-1, 0), -2);
    }

    private static void set() {
        int[] first = {9, 0, 5, 0};
        int[] least = {1, 0, 0, 0};
        int[] most = {20, 9, 99, 1023};
        AnswersFirst x = new AnswersFirst();
        for (int what = 0; what < 4; what++) {
            C.due("set: too little", x.set(what, least[what] - 1), -2);
            C.due("set: too much", x.set(what, most[what] + 1), -2);
            C.due("set: what it was at first", x.set(what, most[what]), first[what]);
            C.due("set: what it was", x.set(what, least[what]), most[what]);
            C.due("set: the least", x.set(what, least[what]), least[what]);
        }
        C.due("set(-1, 1)", x.set(-1, 1), -2);
        C.due("set(4, 1)", x.set(4, 1), -2);
        C.due("count(7)", x.count(7), 1);
    }

    private static void worth() {
        AnswersFirst x = new AnswersFirst();
        for (int m = 0; m < 10; m++) {
            C.due("worth, at first", x.worth(m, -9), 1);
            C.due("worth, the least", x.worth(m, 9), -9);
            C.due("worth, too much", x.worth(m, 10), -1002);
            C.due("worth, too little", x.worth(m, -10), -1002);
            C.due("worth, the most", x.worth(m, 0), 9);
        }
        C.due("worth(-1, 0)", x.worth(-1, 0), -1002);
        C.due("worth(10, 0)", x.worth(10, 0), -1002);
    }

    private static void read() {
        AnswersFirst x = Checks.withMatters("0110ya;0110ne");
        C.due("read, lost", x.read(0), -11);
        C.due("read, lost: count(8)", x.count(8), 1);
        C.due("read(-1)", x.read(-1), -2);
        C.due("read(4)", x.read(4), -2);
        readIs(0, new int[] {0, 1, 1, 0, 0}, 2);
        readIs(0, new int[] {0, 1, 1, 0}, 2);
        readIs(1, new int[] {9, 0, 9}, 1);
        readIs(2, new int[] {0}, 0);
        readIs(2, new int[] {}, 0);
        readIs(0, new int[] {10, 0, 1, 1}, 0);
        readIs(0, new int[] {3, 1, 0, 2, 1, 1}, 1);
        readIs(1, new int[] {-1, 1, 0, 0}, 0);
        readIs(2, new int[] {0, -1, 0, 0}, 0);
        readIs(2, new int[48], 8);
        Checks.fill(x, 0, 0, 0, 1, 1, 0);
        x.read(0);
        C.due("refused by what was read", x.refused(0), 1);
        Checks.fill(x, 0, 0, 1, 1);
        x.read(0);
        C.due("refused by what was read, too", x.refused(0), 0);
    }

    /** On a new object: how many are read of these items, and are SEEN then. */
    private static void readIs(int form, int[] items, int due) {
        AnswersFirst x = new AnswersFirst();
        Checks.fill(x, 0, form, items);
        C.due("read", x.read(0), due);
        C.due("read: count(6)", x.count(6), due);
    }

    /** What was SEEN ahead stays, and counts among the eight. */
    private static void readKeepsSeen() {
        AnswersFirst x = Checks.withMatters("0110ya;0110ne");
        x.seen(1, 1);
        x.sheet(0, 0, 0);
        C.due("read, no items", x.read(0), 0);
        C.due("read, no items: count(6)", x.count(6), 1);
        C.due("read, no items: refused(0)", x.refused(0), 0);
        Checks.fill(x, 0, 0, 10, 0);
        C.due("read, none that may be", x.read(0), 0);
        C.due("read, none that may be: count(6)", x.count(6), 1);
        Checks.fill(x, 0, 0, 0, 1, 1, 0, 2, 0);
        C.due("read, three more", x.read(0), 3);
        C.due("read, three more: count(6)", x.count(6), 4);
        C.due("read again, three more", x.read(0), 3);
        C.due("read again: count(6)", x.count(6), 7);
        C.due("read, one more may be", x.read(0), 1);
        C.due("read, one more: count(6)", x.count(6), 8);
        C.due("read, none more may be", x.read(0), 0);
        C.due("read, none more: count(6)", x.count(6), 8);
        C.due("read, it is full", x.seen(0, 0), -4);
        x.lose(0);
        C.due("read, lost", x.read(0), -11);
        C.due("read, lost: count(6)", x.count(6), 8);
        C.due("what was read is forgotten, too", x.forget(), 8);
        C.due("refused(0), forgotten", x.refused(0), 1);
        Checks.fill(x, 0, 2, 0, 0);
        C.due("read, behind forget()", x.read(0), 1);
        C.due("read, behind forget(): count(6)", x.count(6), 1);
        C.due("read, behind forget(): refused(0)", x.refused(0), 0);
    }
}
