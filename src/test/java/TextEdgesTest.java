import java.util.ArrayList;
import java.util.List;

/** Part 1 of the document and promises 1 to 9, a test for each sentence that names a boundary case. */
public final class TextEdgesTest {
    private static final int NONE = -1, BAD = -2, NOT = -3, FULL = -4;
    private static final String FIGURES = "0123456789", PERSONS = "012345";
    private static final String TEN_SHORT = Checks.times("0110ya", 10), TEN_LONG = Checks.times("0110yy0", 10);
    private static final String TEN_LETTERS = Checks.times("0001", 10);
    private static final Checks C = new Checks();

    public static void main(String[] args) {
        bytesOfTexts();
        tenAtMost();
        bytesOfMatters();
        bytesOfLetters();
        emptyIsWell();
        notEnded();
        toIsWho();
        eleventh();
        firstByteAlone();
        asIfEmpty();
        perhapsItself();
        yesNoSilence();
        knownByThen();
        aheadOfDayZero();
        mattersThatThereAreNot();
        letOff();
        newObject();
        typeAndWipe();
        undo();
        matter();
        set();
        worth();
        readWhole();
        readAsLongAsEachMayBe();
        readEightAtMost();
        C.end();
    }

    // ---- the limits of texts

    private static void bytesOfTexts() {
        C.of("a text of up to 80 bytes (text 0); texts of up to 60 bytes");
        int[] most = {80, 60, 60};
        for (int text = 0; text < 3; text++) {
            AnswersFirst x = new AnswersFirst();
            for (int n = 1; n <= most[text]; n++) {
                C.due("type " + text, x.type(text, '0'), n);
            }
            C.due("one more", x.type(text, '0'), FULL);
            C.due("undo", x.undo(text), most[text] - 1);
            C.due("one has room again", x.type(text, '0'), most[text]);
            C.due("one more", x.type(text, '0'), FULL);
            for (int other = 0; other < 3; other++) {
                C.due("count " + (3 + other), x.count(3 + other), other == text ? most[text] : 0);
            }
        }
    }

    private static void tenAtMost() {
        C.of("10 at most (0 on), with ; between them");
        for (int n = 0; n <= 11; n++) {
            AnswersFirst x = Checks.withMatters(Checks.times("0110ya", n));
            C.due(n + " matters", x.count(0), n <= 10 ? n : 0);
            for (int text = 1; text < 3; text++) {
                Checks.say(x, text, Checks.times("0001", n));
                C.due(n + " in text " + text, x.count(text), n <= 10 ? n : 0);
            }
        }
        AnswersFirst x = Checks.withMatters(TEN_LONG);
        C.due("ten long ones, bytes", x.count(3), 79);
        C.due("ten long ones", x.count(0), 10);
        C.due("the last", x.matter(9, 5), 0);
        C.due("none behind the last", x.matter(10, 5), BAD);
    }

    // ---- what may stand where

    /** Of all bytes just these may come behind the signs; a sign of ends ends it. */
    private static void goesOn(int text, String signs, String with, String ends) {
        for (int b = 0; b < 256; b++) {
            AnswersFirst x = new AnswersFirst();
            Checks.say(x, text, signs);
            x.type(text, b);
            int place = signs.length();
            int due = ends.indexOf(b) >= 0 ? NONE : with.indexOf(b) >= 0 ? place + 1 : place;
            C.due("fault of " + signs + " and byte " + b, x.fault(text), due);
        }
    }

    private static void bytesOfMatters() {
        C.of("WHO writes (0 to 5)");
        goesOn(0, "", PERSONS, "");
        goesOn(0, "0110ya;", PERSONS, "");
        C.of("TO whom (0 to 5, another one)");
        goesOn(0, "0", "12345", "");
        goesOn(0, "3", "01245", "");
        goesOn(0, "5", "01234", "");
        goesOn(0, "0110ya;1", "02345", "");
        C.of("two figures: the DAY of the letter (00 to 99)");
        goesOn(0, "01", FIGURES, "");
        goesOn(0, "010", FIGURES, "");
        goesOn(0, "019", FIGURES, "");
        C.of("y or n: the WORD of the reply");
        goesOn(0, "0100", "yn", "");
        goesOn(0, "0199", "yn", "");
        C.of("a always, e never, or y, n, s and a figure");
        goesOn(0, "0110y", "yns", "ae");
        goesOn(0, "0110n", "yns", "ae");
        C.of("the number of a MATTER (0 to 9, perhaps itself)");
        goesOn(0, "0110yy", "", FIGURES);
        goesOn(0, "0110yn", "", FIGURES);
        goesOn(0, "0110ys", "", FIGURES);
        C.of("with ; between them");
        goesOn(0, "0110ya", ";", "");
        goesOn(0, "0110ne", ";", "");
        goesOn(0, "0110ys0", ";", "");
    }

    private static void bytesOfLetters() {
        C.of("two figures: the DAY, then from WHO, TO whom (another one)");
        for (int text = 1; text < 3; text++) {
            goesOn(text, "", FIGURES, "");
            goesOn(text, "9", FIGURES, "");
            goesOn(text, "99", PERSONS, "");
            goesOn(text, "000", "", "12345");
            goesOn(text, "002", "", "01345");
            goesOn(text, "005", "", "01234");
            goesOn(text, "0001", ";", "");
            goesOn(text, "0001;", FIGURES, "");
            goesOn(text, "0001;122", "", "01345");
        }
    }

    // ---- the FAULT of a text

    private static void faultIs(int text, String signs, int place) {
        AnswersFirst x = new AnswersFirst();
        Checks.say(x, text, signs);
        C.due("fault of " + signs, x.fault(text), place);
    }

    private static void emptyIsWell() {
        C.of("an empty one is well");
        for (int text = 0; text < 3; text++) {
            faultIs(text, "", NONE);
            AnswersFirst x = new AnswersFirst();
            x.type(text, ';');
            C.due("fault", x.fault(text), 0);
            x.undo(text);
            C.due("fault, undone", x.fault(text), NONE);
            x.type(text, '0');
            C.due("fault", x.fault(text), 1);
            x.wipe(text);
            C.due("fault, wiped", x.fault(text), NONE);
        }
    }

    private static void notEnded() {
        C.of("of one that is not ended, its end");
        String matters = "0110ya;5499ns9;2300ye;1255yy0";
        for (int n = 1; n <= matters.length(); n++) {
            boolean isEnded = n == 6 || n == 14 || n == 21 || n == 29;
            faultIs(0, matters.substring(0, n), isEnded ? NONE : n);
        }
        String letters = "0001;9954;1032";
        for (int n = 1; n <= letters.length(); n++) {
            boolean isEnded = n == 4 || n == 9 || n == 14;
            faultIs(1, letters.substring(0, n), isEnded ? NONE : n);
            faultIs(2, letters.substring(0, n), isEnded ? NONE : n);
        }
    }

    private static void toIsWho() {
        C.of("here also of TO, if it is WHO");
        for (int who = 0; who < 6; who++) {
            for (int to = 0; to < 6; to++) {
                boolean isWell = who != to;
                faultIs(0, "" + who + to + "10ya", isWell ? NONE : 1);
                faultIs(0, "0110ya;" + who + to + "10ya", isWell ? NONE : 8);
                faultIs(1, "10" + who + to, isWell ? NONE : 3);
                faultIs(2, "1001;10" + who + to, isWell ? NONE : 8);
            }
        }
    }

    private static void eleventh() {
        C.of("or of the first byte of an eleventh");
        faultIs(0, TEN_SHORT, NONE);
        goesOn(0, TEN_SHORT, ";", "");
        goesOn(0, TEN_SHORT + ";", "", "");
        faultIs(0, TEN_SHORT + ";0110ya", 70);
        faultIs(0, TEN_SHORT + ";0110ya;0", 70);
        faultIs(0, TEN_LONG, NONE);
        faultIs(0, TEN_LONG + ";", 80);
        faultIs(0, Checks.times("0110yy0", 9) + ";0110ya;", 79);
        faultIs(0, Checks.times("0110yy0", 9) + ";0110ya;0", 79);
        for (int text = 1; text < 3; text++) {
            faultIs(text, TEN_LETTERS, NONE);
            goesOn(text, TEN_LETTERS, ";", "");
            goesOn(text, TEN_LETTERS + ";", "", "");
            faultIs(text, TEN_LETTERS + ";0001", 50);
            faultIs(text, TEN_LETTERS + ";0001;0001", 50);
        }
    }

    private static void firstByteAlone() {
        C.of("The FAULT of a text is the place of the first byte with which it cannot go on");
        faultIs(0, "x110ya", 0);
        faultIs(0, "00x0ya", 1);
        faultIs(0, "0110ya,0110ya;;", 6);
        faultIs(0, "0110ya;;0110ya", 7);
        faultIs(0, "0110ya;0110ya;0110xa;x", 18);
        faultIs(1, "0000;x", 3);
        AnswersFirst x = Checks.withMatters("0110xa");
        for (int n = 6; n > 0; n--) {
            C.due("fault of " + n + " bytes", x.fault(0), n > 4 ? 4 : n);
            x.undo(0);
        }
    }

    /** What all calls answer that ask, but for the bytes and the FAULTS of texts. */
    private static List<Integer> answers(AnswersFirst x) {
        List<Integer> all = new ArrayList<>();
        for (int what : new int[] {0, 1, 2, 6, 7, 8}) {
            all.add(x.count(what));
        }
        for (int m = 0; m < 10; m++) {
            all.add(x.matter(m, 0));
            all.add(x.hangs(m));
        }
        for (int row : new int[] {0, 1, 5, 1023}) {
            all.addAll(List.of(x.rows(row), x.broken(row), x.nearest(row), x.steps(row, 1), x.returns(row, 0)));
            all.addAll(List.of(x.open(row, 5), x.rest(row, 0), x.had(row, 0, 5), x.asked(row, 0, 20)));
        }
        for (int what = 0; what < 2; what++) {
            all.addAll(List.of(x.sure(what), x.cannot(what), x.freed(what), x.refused(what), x.best(0, what)));
        }
        all.addAll(List.of(x.rows(NONE), x.rings(), x.owed(NONE), x.owed(1), x.fines(1), x.lack(), x.unasked()));
        all.addAll(List.of(x.lot(7, 0), x.lot(7, 20)));
        return all;
    }

    private static void asIfEmpty() {
        C.of("With a FAULT it is as if it was empty");
        String[] well = {"0110ys1;0110ys0", "0001;0101", "0910;1110"};
        String[][] faulty = {{"0110ys1;0110ys0;", "0110ys1;0110ys", "x110ys1", "0110ys0;0010ya", TEN_SHORT + ";0"},
            {"0001;0101;", "0001;01", "x001", "0001;0100", TEN_LETTERS + ";0001"},
            {"0910;1110;", "0910;1", "x910", "0910;1111", TEN_LETTERS + ";x"}};
        for (int text = 0; text < 3; text++) {
            for (String signs : faulty[text]) {
                AnswersFirst x = new AnswersFirst();
                AnswersFirst empty = new AnswersFirst();
                for (int other = 0; other < 3; other++) {
                    Checks.say(x, other, other == text ? signs : well[other]);
                    Checks.say(empty, other, other == text ? "" : well[other]);
                }
                C.isTrue(signs + " is as if empty", answers(x).equals(answers(empty)));
                C.due("but it has bytes", x.count(3 + text), signs.length());
                C.isTrue("and a FAULT", x.fault(text) >= 0);
            }
        }
        AnswersFirst x = Checks.withMatters("0110ya;0110ya;");
        C.due("no matters", x.count(0), 0);
        x.undo(0);
        C.due("the FAULT undone, there they are", x.count(0), 2);
        C.due("and written", x.rows(0), 3);
        x.type(0, ';');
        C.due("the FAULT again, none is written", x.rows(0), 0);
        x.undo(0);
        C.due("undone again", x.rows(0), 3);
        for (int text = 1; text < 3; text++) {
            x = Checks.withReplies("0001", "0910");
            C.due("none owed", x.owed(NONE), 0);
            x.type(text, ';');
            C.due("a FAULT in text " + text, x.owed(NONE) + 10 * x.unasked(), text == 1 ? 10 : 1);
            x.undo(text);
            C.due("undone", x.owed(NONE) + 10 * x.unasked(), 0);
            x.wipe(text);
            C.due("wiped", x.owed(NONE) + 10 * x.unasked(), text == 1 ? 10 : 1);
        }
    }

    // ---- when it is WRITTEN

    private static void rowsAre(String matters, int lag, int... due) {
        AnswersFirst x = Checks.withMatters(matters);
        x.set(0, lag);
        C.due("how many rows of " + matters, x.rows(NONE), due.length);
        for (int i = 0; i < due.length; i++) {
            C.due("row " + i + " of " + matters + ", LAG " + lag, x.rows(i), due[i]);
        }
    }

    private static void perhapsItself() {
        C.of("the number of a MATTER (0 to 9, perhaps itself)");
        rowsAre("0100yy0", 1, 0, 1);
        rowsAre("0100yn0", 1, 0);
        rowsAre("0100ys0", 1);
        rowsAre("0100ny0", 1, 0);
        rowsAre("0100nn0", 1, 0, 1);
        rowsAre("0100ns0", 1);
        AnswersFirst x = Checks.withMatters(Checks.times("0110ye", 9) + ";0110yy9");
        C.due("itself, as the last", x.rows(NONE), 2);
        C.due("itself, written", x.rows(1), 512);
        C.due("itself, hangs", x.hangs(9), 512);
    }

    private static void yesNoSilence() {
        C.of("a always, e never, or y, n, s and a figure ..: if a yes, a no, nothing (silence) came to that one");
        String[] whens = {"a", "e", "y1", "n1", "s1"};
        String[] others = {"ya", "na", "ye", "ne"};
        int[][] due = {{3, 3, 1, 1}, {2, 2, 0, 0}, {3, 2, 0, 0}, {2, 3, 0, 0}, {2, 2, 1, 1}};
        for (int w = 0; w < whens.length; w++) {
            for (int o = 0; o < others.length; o++) {
                rowsAre("0110y" + whens[w] + ";0110" + others[o], 9, due[w][o]);
            }
        }
    }

    private static void knownByThen() {
        C.of("It is KNOWN to a letter, if it comes on that one's DAY or ahead");
        for (int lag = 1; lag <= 20; lag++) {
            for (int off = -1; off <= 1; off++) {
                String day = "" + (50 + lag + off);
                boolean isKnown = off <= 0;
                rowsAre("0150yy1;01" + day + "ya", lag, isKnown ? 3 : 2);
                rowsAre("0150yn1;01" + day + "na", lag, isKnown ? 3 : 2);
                rowsAre("0150ys1;01" + day + "na", lag, isKnown ? 2 : 3);
            }
        }
        rowsAre("0199yy1;0100ya", 1, 3);
        rowsAre("0100yy1;0199ya", 20, 2);
        rowsAre("0179yy1;0199ya", 20, 3);
        rowsAre("0178yy1;0199ya", 20, 2);
    }

    private static void aheadOfDayZero() {
        C.of("a reply comes so many days ahead of its letter's DAY (perhaps ahead of DAY 0)");
        rowsAre("0100yy1;0100ya", 20, 3);
        rowsAre("0100yy1;0119ya", 20, 3);
        rowsAre("0100yy1;0120ya", 20, 3);
        rowsAre("0100yy1;0121ya", 20, 2);
        rowsAre("0100yy1;0100ya", 1, 3);
        rowsAre("0100yy1;0101ya", 1, 3);
        rowsAre("0100yy1;0102ya", 1, 2);
        AnswersFirst x = Checks.withMatters("0100ya;0108ya;0109ya;0110ya");
        C.due("had on day 0", x.had(15, 0, 0), 7);
        C.due("open on day 0", x.open(15, 0), 6);
        C.due("had on day 1", x.had(15, 0, 1), 15);
    }

    private static void mattersThatThereAreNot() {
        C.of("to MATTERS that there are not nothing ever comes");
        for (int by = 3; by <= 9; by++) {
            String matters = "0199yy" + by + ";0199yn" + by + ";0199ys" + by;
            rowsAre(matters, 9, 4);
            AnswersFirst x = Checks.withMatters(matters);
            C.due("broken, though it is told as written", x.broken(1 << by | 4), 0);
            C.due("broken", x.broken(1023), 3);
            C.due("steps", x.steps(1023, 1), 4);
            C.due("hangs", x.hangs(2), 0);
        }
        rowsAre("0199yy3;0199yn3;0199ys3;0100ya", 9, 9);
        C.of("it FITS ITSELF, if each MATTER that there is is in it just if ..");
        rowsAre("", 9, 0);
        AnswersFirst x = new AnswersFirst();
        C.due("no matters, broken", x.broken(1023), 0);
        C.due("no matters, nearest", x.nearest(1023), 0);
    }

    private static void letOff() {
        C.of("LET OFF (bits of the numbers 0 to 9; none at first)");
        for (int m = 0; m < 10; m++) {
            AnswersFirst x = Checks.withMatters(Checks.times("0110ye", m));
            C.due("none at first", x.rows(NONE), 1);
            x.set(3, 1 << m);
            C.due("that there is not", x.rows(NONE), 1);
            for (char sign : (m > 0 ? ";0110ye" : "0110ye").toCharArray()) {
                x.type(0, sign);
            }
            C.due("now it is there", x.rows(NONE), 2);
            C.due("now it is there", x.rows(1), 1 << m);
            x.set(3, 1023 & ~(1 << m));
            C.due("the others", x.rows(NONE), 1 << m);
        }
        C.of("MATTERS that may be WRITTEN or not, whatever is told");
        for (String when : new String[] {"a", "e", "y0", "n0", "s0", "s9"}) {
            AnswersFirst x = Checks.withMatters("0110y" + when);
            x.set(3, 1);
            C.due("rows, " + when, x.rows(NONE), 2);
            C.due("broken, " + when, x.broken(0) + x.broken(1), 0);
        }
    }

    // ---- promises 1 to 9

    private static void newObject() {
        C.of("Empty texts; all SHEETS are LOST");
        AnswersFirst x = new AnswersFirst();
        for (int text = 0; text < 3; text++) {
            C.due("count", x.count(text), 0);
            C.due("bytes", x.count(3 + text), 0);
            C.due("fault", x.fault(text), NONE);
            C.due("undo", x.undo(text), NOT);
            C.due("wipe", x.wipe(text), 0);
        }
        C.due("count 8 before any", x.count(8), 0);
        C.due("count 6", x.count(6), 0);
        for (int s = 0; s < 4; s++) {
            C.due("lose", x.lose(s), -11);
        }
        C.of("9 at first; 0 at first; 5 at first; none at first");
        C.due("LAG", x.count(7), 9);
        int[] first = {9, 0, 5, 0};
        for (int what = 0; what < 4; what++) {
            C.due("set " + what, x.set(what, 1), first[what]);
        }
        C.of("WORTH .. (-9 to 9; 1 at first)");
        for (int m = 0; m < 10; m++) {
            C.due("worth " + m, x.worth(m, 0), 1);
        }
    }

    private static void typeAndWipe() {
        C.of("A byte (0 to 255) comes behind a text (0 to 2): how many");
        AnswersFirst x = new AnswersFirst();
        int[] bytes = {0, 255, 127, 128};
        for (int text = 0; text < 3; text++) {
            for (int i = 0; i < bytes.length; i++) {
                C.due("type " + bytes[i], x.type(text, bytes[i]), i + 1);
            }
            C.due("fault", x.fault(text), 0);
        }
        C.of("A text is empty: how many bytes it had");
        for (int text = 0; text < 3; text++) {
            C.due("wipe", x.wipe(text), 4);
            C.due("wipe, empty", x.wipe(text), 0);
            for (int other = 0; other < 3; other++) {
                C.due("bytes of " + other, x.count(3 + other), other <= text ? 0 : 4);
            }
            Checks.say(x, text, text == 0 ? TEN_LONG + ";" : Checks.times("0001", 12) + ";");
            C.due("wipe, full", x.wipe(text), text == 0 ? 80 : 60);
            C.due("type, wiped", x.type(text, '0'), 1);
            C.due("wipe", x.wipe(text), 1);
        }
    }

    private static void undo() {
        C.of("The last byte of a text is undone: how many are left. BAD; NOT: it is empty");
        for (int text = 0; text < 3; text++) {
            int most = text == 0 ? 80 : 60;
            AnswersFirst x = new AnswersFirst();
            for (int i = 0; i < most; i++) {
                x.type(text, '0');
            }
            for (int left = most - 1; left >= 0; left--) {
                C.due("undo " + text, x.undo(text), left);
            }
            C.due("undo, empty", x.undo(text), NOT);
            C.due("undo, empty still", x.undo(text), NOT);
            C.due("bytes", x.count(3 + text), 0);
            C.due("type", x.type(text, '0'), 1);
        }
        AnswersFirst x = Checks.withMatters("0110ya");
        Checks.say(x, 1, "0001");
        Checks.say(x, 2, "0001");
        C.due("undo 1", x.undo(1), 3);
        C.due("text 0 stays", x.count(0), 1);
        C.due("text 2 stays", x.count(2), 1);
    }

    private static void matter() {
        C.of("WHO, TO, DAY, WORD (3: 1 yes, 0 no), when WRITTEN (4: 0 always .. 4 silence), the MATTER by which (5; NONE)");
        AnswersFirst x = Checks.withMatters("0100ya;0199ne;5000yy0;4599nn9;3409ys4");
        int[][] due = {{0, 1, 0, 1, 0, -1}, {0, 1, 99, 0, 1, -1}, {5, 0, 0, 1, 2, 0}, {4, 5, 99, 0, 3, 9}, {3, 4, 9, 1, 4, 4}};
        for (int m = 0; m < due.length; m++) {
            for (int what = 0; what < 6; what++) {
                C.due("matter(" + m + ", " + what + ")", x.matter(m, what), due[m][what]);
            }
        }
        for (int what = 0; what < 6; what++) {
            C.due("matter(5, ..)", x.matter(5, what), BAD);
            C.due("matter(9, ..)", x.matter(9, what), BAD);
            C.due("matter(-1, ..)", x.matter(-1, what), BAD);
        }
        x.type(0, ';');
        C.due("matter(0, 0), a fault", x.matter(0, 0), BAD);
        x.undo(0);
        C.due("matter(4, 5), mended", x.matter(4, 5), 4);
        Checks.say(x, 0, "0100ya");
        C.due("matter(1, 0), there was one once", x.matter(1, 0), BAD);
        Checks.say(x, 0, "0110ys7");
        Checks.say(x, 0, "0110ya");
        C.due("matter(0, 5), by none now", x.matter(0, 5), NONE);
        Checks.say(x, 0, "0199ya");
        Checks.say(x, 0, "0101ya");
        C.due("matter(0, 2), another DAY now", x.matter(0, 2), 1);
    }

    private static void set() {
        C.of("LAG (what = 0), GRACE (1), FINE (2), LET OFF (3, bits): what it was");
        int[] first = {9, 0, 5, 0};
        int[] least = {1, 0, 0, 0};
        int[] most = {20, 9, 99, 1023};
        for (int what = 0; what < 4; what++) {
            AnswersFirst x = new AnswersFirst();
            C.due("too little", x.set(what, least[what] - 1), BAD);
            C.due("the most; at first", x.set(what, most[what]), first[what]);
            C.due("too much", x.set(what, most[what] + 1), BAD);
            C.due("the least; the most", x.set(what, least[what]), most[what]);
            C.due("the same; the least", x.set(what, least[what]), least[what]);
            for (int other = 0; other < 4; other++) {
                C.due("set " + other, x.set(other, 1), other == what ? least[what] : first[other]);
            }
        }
    }

    private static void worth() {
        C.of("WORTH of a MATTER (0 to 9), as any number: what it was. BAD: -1002");
        AnswersFirst x = new AnswersFirst();
        for (int m = 0; m < 10; m++) {
            C.due("at first", x.worth(m, -9), 1);
            C.due("too little", x.worth(m, -10), -1002);
            C.due("the least", x.worth(m, 9), -9);
            C.due("too much", x.worth(m, 10), -1002);
            C.due("the most", x.worth(m, -2), 9);
            C.due("as any number: no refusal", x.worth(m, -3), -2);
            C.due("as any number: no refusal", x.worth(m, -1), -3);
            C.due("as any number: no refusal", x.worth(m, 0), -1);
        }
        C.due("worth(10, 0)", x.worth(10, 0), -1002);
        C.due("worth(-1, 0)", x.worth(-1, 0), -1002);
    }

    private static void readIs(int form, int due, int... items) {
        AnswersFirst x = new AnswersFirst();
        Checks.fill(x, 3, form, items);
        C.due("read " + List.of(form, items.length), x.read(3), due);
        C.due("read, then count 6", x.count(6), due);
    }

    private static void readWhole() {
        C.of("its items, two for each (MATTER, 1 or 0), as many as are whole");
        for (int form = 0; form < 3; form++) {
            readIs(form, 0);
            readIs(form, 0, 1);
            readIs(form, 1, 1, 1);
            readIs(form, 1, 1, 1, 1);
            readIs(form, 2, 1, 1, 1, 1);
            readIs(form, 7, new int[14]);
            readIs(form, 7, new int[15]);
        }
        AnswersFirst x = Checks.withMatters("0110ya;0110ne");
        Checks.fill(x, 0, 2, 0, 1, 1, 0, 0);
        C.due("read", x.read(0), 2);
        C.due("by what was read", x.refused(0), 1);
        Checks.fill(x, 0, 2, 1, 1);
        C.due("read", x.read(0), 1);
        C.due("by what was read", x.refused(0), 0);
    }

    private static void readAsLongAsEachMayBe() {
        C.of("as long as each may be: how many");
        readIs(0, 2, 0, 0, 9, 1);
        readIs(0, 1, 0, 0, 10, 1, 1, 1);
        readIs(0, 1, 0, 0, -1, 1, 1, 1);
        readIs(0, 1, 0, 0, 1, 2, 1, 1);
        readIs(0, 1, 0, 0, 1, -1, 1, 1);
        readIs(0, 0, 10, 1, 1, 1);
        readIs(1, 0, 300, 1, 1, 1);
        readIs(2, 0, 1, Integer.MAX_VALUE, 1, 1);
        readIs(2, 0, Integer.MIN_VALUE, 1, 1, 1);
        AnswersFirst x = Checks.withMatters("0110ya;0110ne");
        Checks.fill(x, 0, 0, 0, 1, 10, 0, 1, 1);
        C.due("read", x.read(0), 1);
        C.due("what stands behind is not seen", x.refused(0), 1);
    }

    private static void readEightAtMost() {
        C.of("SEEN, 8 at most");
        readIs(0, 8, new int[16]);
        readIs(0, 8, new int[18]);
        readIs(2, 8, new int[48]);
        for (int ahead = 0; ahead <= 8; ahead++) {
            AnswersFirst x = new AnswersFirst();
            for (int i = 0; i < ahead; i++) {
                x.seen(i, 1);
            }
            Checks.fill(x, 1, 0, 0, 0, 0, 0, 0, 0);
            C.due("read behind " + ahead, x.read(1), Math.min(3, 8 - ahead));
            C.due("then count 6", x.count(6), Math.min(8, ahead + 3));
        }
        AnswersFirst x = new AnswersFirst();
        x.sheet(0, 0, 16);
        x.read(0);
        C.due("then it is full", x.seen(0, 0), FULL);
        C.due("a read that finds it full is no refusal", x.read(0), 0);
        C.due("no finding", x.count(8), 0);
        C.due("the sheet stays", x.lose(0), 16);
    }
}
