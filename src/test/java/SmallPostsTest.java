import java.util.ArrayList;
import java.util.List;

/** Not drawn but all: every small post of a kind, each answer held against the model's. */
public final class SmallPostsTest {
    private static final int NONE = -1;
    private static final Checks C = new Checks();

    private final AnswersFirst x = new AnswersFirst();
    private final Model y = new Model();

    public static void main(String[] args) {
        everyTwoMatters();
        everyThreeMatters();
        everyRepliesAndLetters();
        C.end();
    }

    private void say(int text, String signs) {
        for (int i = 0; i < signs.length(); i++) {
            x.type(text, signs.charAt(i));
            y.type(text, signs.charAt(i));
        }
        C.due("fault of " + signs, x.fault(text), y.fault(text));
    }

    private void set(int what, int v) {
        C.due("set(" + what + ", " + v + ")", x.set(what, v), y.set(what, v));
    }

    // ---- matters

    /** Days so that a reply is known ahead of, on and behind the last day for it; by itself, by another, by none. */
    private static void everyTwoMatters() {
        List<String> firsts = new ArrayList<>();
        List<String> seconds = new ArrayList<>();
        for (int day = 10; day <= 12; day++) {
            for (String rest : endings(2, true)) {
                firsts.add("01" + day + rest);
                seconds.add("10" + day + rest);
            }
        }
        for (String first : firsts) {
            for (String second : seconds) {
                new SmallPostsTest().twoMatters(first + ";" + second);
            }
        }
    }

    /** Of one matter all that can follow its day, going by each of n matters, perhaps by one that there is not. */
    private static List<String> endings(int n, boolean alsoByNone) {
        List<String> all = new ArrayList<>();
        for (char word : "yn".toCharArray()) {
            all.add(word + "a");
            all.add(word + "e");
            for (char when : "yns".toCharArray()) {
                for (int by = 0; by < n; by++) {
                    all.add("" + word + when + by);
                }
            }
            if (alsoByNone) {
                all.add(word + "s" + n);
            }
        }
        return all;
    }

    private void twoMatters(String matters) {
        C.of(matters);
        say(0, matters);
        set(0, 1);
        for (int letOff = 0; letOff < 4; letOff++) {
            set(3, letOff);
            allOfTheRows();
            for (int row = 0; row < 4; row++) {
                C.due("broken(" + row + ")", x.broken(row), y.broken(row));
                C.due("nearest(" + row + ")", x.nearest(row), y.nearest(row));
                C.due("steps(" + row + ", 1)", x.steps(row, 1), y.steps(row, 1));
                C.due("returns(" + row + ", 0)", x.returns(row, 0), y.returns(row, 0));
                C.due("returns(" + row + ", 1)", x.returns(row, 1), y.returns(row, 1));
                C.due("rest(" + row + ", 0)", x.rest(row, 0), y.rest(row, 0));
                C.due("rest(" + row + ", 1)", x.rest(row, 1), y.rest(row, 1));
            }
        }
        for (int day = 8; day <= 12; day++) {
            C.due("had(3, 0, " + day + ")", x.had(3, 0, day), y.had(3, 0, day));
            C.due("asked(3, 1, " + day + ")", x.asked(3, 1, day), y.asked(3, 1, day));
            C.due("open(3, " + day + ")", x.open(3, day), y.open(3, day));
        }
    }

    private void allOfTheRows() {
        C.due("rows(NONE)", x.rows(NONE), y.rows(NONE));
        for (int i = 0; i < 3; i++) {
            C.due("rows(" + i + ")", x.rows(i), y.rows(i));
        }
        for (int what = 0; what < 2; what++) {
            C.due("sure(" + what + ")", x.sure(what), y.sure(what));
            C.due("cannot(" + what + ")", x.cannot(what), y.cannot(what));
            C.due("freed(" + what + ")", x.freed(what), y.freed(what));
            C.due("best(1, " + what + ")", x.best(1, what), y.best(1, what));
            C.due("refused(" + what + ")", x.refused(what), y.refused(what));
        }
        C.due("rings()", x.rings(), y.rings());
        C.due("hangs(0)", x.hangs(0), y.hangs(0));
        C.due("hangs(1)", x.hangs(1), y.hangs(1));
        C.due("lot(7, 9)", x.lot(7, 9), y.lot(7, 9));
    }

    private static void everyThreeMatters() {
        List<String> each = endings(3, false);
        for (String first : each) {
            for (String second : each) {
                for (String third : each) {
                    new SmallPostsTest().threeMatters("0110" + first + ";1210" + second + ";2010" + third);
                }
            }
        }
    }

    private void threeMatters(String matters) {
        C.of(matters);
        say(0, matters);
        x.seen(2, 1);
        y.seen(2, 1);
        allOfTheRows();
    }

    // ---- replies, letters

    private static void everyRepliesAndLetters() {
        List<String> letters = upToThree("0910", "1010", "1110", "0901");
        for (String replies : upToThree("0001", "0101", "0201", "0010")) {
            for (String some : letters) {
                new SmallPostsTest().repliesAndLetters(replies, some);
            }
        }
    }

    private static List<String> upToThree(String... entries) {
        List<String> all = new ArrayList<>(List.of(""));
        List<String> longest = List.of(entries);
        for (int n = 1; n <= 3; n++) {
            all.addAll(longest);
            List<String> next = new ArrayList<>();
            for (String some : longest) {
                for (String entry : entries) {
                    next.add(some + ";" + entry);
                }
            }
            longest = next;
        }
        return all;
    }

    private void repliesAndLetters(String replies, String letters) {
        C.of(replies + " and " + letters);
        say(1, replies);
        say(2, letters);
        for (int grace = 0; grace < 2; grace++) {
            set(1, grace);
            for (int person = NONE; person < 3; person++) {
                C.due("owed(" + person + ")", x.owed(person), y.owed(person));
                C.due("fines(" + person + ")", x.fines(person), y.fines(person));
            }
            C.due("lack()", x.lack(), y.lack());
            C.due("unasked()", x.unasked(), y.unasked());
        }
    }
}
