import java.util.ArrayList;
import java.util.List;

/** Of every call each refusal: the last number that is well, the first that is not, their order, that nothing changes. */
public final class RefusalsTest {
    private static final int BAD = -2, NOT = -3, FULL = -4, LEAST_INT = Integer.MIN_VALUE, MOST_INT = Integer.MAX_VALUE;
    private static final int[] ROW = {0, 1023}, PERSON = {0, 5}, DAY = {0, 99}, TEXT = {0, 2}, SHEET = {0, 3};
    private static final int[] FORM = {0, 2}, ONE_OR_OTHER = {0, 1}, THREE = {0, 2}, ANY = {LEAST_INT, MOST_INT};
    private static final int SILENT = 0;
    private static final Checks C = new Checks();

    /** What a call answers on an object, with these numbers. */
    private interface Call {
        long on(AnswersFirst x, int[] a);
    }

    /** Makes an object that is in some state, always the same one. */
    private interface State {
        AnswersFirst made();
    }

    public static void main(String[] args) {
        numbersOfTexts();
        numbersOfSettings();
        numbersOfRows();
        numbersOfDays();
        numbersOfReplies();
        numbersOfSheets();
        full();
        not();
        nulls();
        otherFindings();
        firstThatFits();
        C.end();
    }

    // ---- states

    /** Something of each kind: matters, replies, letters, all settings, worths, seen, three sheets, a finding. */
    private static AnswersFirst busy() {
        AnswersFirst x = Checks.withMatters("0110ys1;1010ys0;2011na");
        Checks.say(x, 1, "0001;0102");
        Checks.say(x, 2, "0910");
        x.set(0, 8);
        x.set(1, 1);
        x.set(2, 7);
        x.set(3, 4);
        x.worth(0, -3);
        x.worth(9, 4);
        x.seen(0, 1);
        x.seen(3, 0);
        Checks.fill(x, 0, 0, 1, 1, 3);
        Checks.fill(x, 1, 1, 300, -2);
        Checks.fill(x, 2, 2, 70000, 5, 0, -1);
        x.sheet(3, 0, -1);
        return x;
    }

    private static AnswersFirst withFaults() {
        AnswersFirst x = Checks.withMatters("0110ys1;1");
        Checks.say(x, 1, "0001;");
        Checks.say(x, 2, "x910");
        return x;
    }

    private static AnswersFirst withoutRows() {
        return Checks.withMatters("0110ys0");
    }

    private static AnswersFirst withText(int text, int bytes) {
        AnswersFirst x = new AnswersFirst();
        for (int i = 0; i < bytes; i++) {
            x.type(text, "0110ya;".charAt(i % 7));
        }
        return x;
    }

    private static AnswersFirst withSeen(int n) {
        AnswersFirst x = new AnswersFirst();
        for (int i = 0; i < n; i++) {
            x.seen(i, i & 1);
        }
        return x;
    }

    // ---- what an object is

    /** All that can be learnt of an object; it is used up then. */
    private static List<Long> learnt(AnswersFirst x) {
        List<Long> all = new ArrayList<>();
        all.add(x.digest());
        for (int s = 0; s < 4; s++) {
            for (int form = 0; form < 3; form++) {
                for (int i = 0; i < 5; i++) {
                    all.add((long) x.get(s, form, i));
                }
            }
            all.add((long) x.lose(s));
        }
        for (int m = 0; m < 10; m++) {
            all.add((long) x.worth(m, 1));
        }
        int[] first = {9, 0, 5, 0};
        for (int what = 0; what < 4; what++) {
            all.add((long) x.set(what, first[what]));
        }
        learnTexts(x, all);
        learnSeen(x, all);
        return all;
    }

    private static void learnTexts(AnswersFirst x, List<Long> all) {
        for (int text = 0; text < 3; text++) {
            int bytes = x.count(3 + text);
            for (int i = 0; i < bytes; i++) {
                all.add((long) x.undo(text));
                all.add(x.digest());
            }
        }
    }

    /** Rows without a matter, and else with any bits: by how many agree, each that was seen shows itself. */
    private static void learnSeen(AnswersFirst x, List<Long> all) {
        Checks.say(x, 0, Checks.times("0110ne", 10));
        for (int m = 0; m < 10; m++) {
            x.set(3, 1023 & ~(1 << m));
            all.add((long) x.refused(0));
        }
        x.set(3, 1023);
        all.add((long) x.refused(0));
        all.add((long) x.refused(1));
        all.add((long) x.forget());
    }

    // ---- how it is asked

    /** A refusal that is told as a finding, or (finding 0) that leaves even count() 8. */
    private static void refuses(String what, State state, Call call, int[] a, long due, int finding) {
        AnswersFirst x = state.made();
        AnswersFirst twin = state.made();
        String told = what + java.util.Arrays.toString(a);
        C.due(told, call.on(x, a), due);
        C.due(told + ", then count(8)", x.count(8), finding == SILENT ? twin.count(8) : finding);
        C.isTrue(told + " changes nothing", learnt(x).equals(learnt(twin)));
    }

    private static void refuses(String what, State state, Call call, long due, int finding) {
        refuses(what, state, call, new int[0], due, finding);
    }

    /** Each number in its range is well, with the others at both ends of theirs; just outside, and far, it is not. */
    private static void ranges(String what, Call call, long bad, int[]... ranges) {
        for (int end = 0; end < 2; end++) {
            for (int p = 0; p < ranges.length; p++) {
                int[] a = new int[ranges.length];
                for (int q = 0; q < a.length; q++) {
                    a[q] = ranges[q] == ANY ? end : ranges[q][end];
                }
                a[p] = ranges[p][0];
                isWell(what, call, a, bad);
                a[p] = ranges[p][1];
                isWell(what, call, a, bad);
                if (ranges[p][0] != LEAST_INT) {
                    outside(what, call, a, p, ranges[p][0] - 1, bad);
                    outside(what, call, a, p, LEAST_INT, bad);
                }
                if (ranges[p][1] != MOST_INT) {
                    outside(what, call, a, p, ranges[p][1] + 1, bad);
                    outside(what, call, a, p, MOST_INT, bad);
                }
            }
        }
    }

    private static void isWell(String what, Call call, int[] a, long bad) {
        C.isTrue(what + java.util.Arrays.toString(a) + " is not BAD", call.on(busy(), a) != bad);
    }

    private static void outside(String what, Call call, int[] a, int p, int v, long bad) {
        int kept = a[p];
        a[p] = v;
        refuses(what, RefusalsTest::busy, call, a, bad, SILENT);
        refuses(what, AnswersFirst::new, call, a, bad, SILENT);
        a[p] = kept;
    }

    // ---- BAD: a number not as told, no such thing

    private static void numbersOfTexts() {
        C.of("A byte (0 to 255) comes behind a text (0 to 2): how many. BAD");
        ranges("type", (x, a) -> x.type(a[0], a[1]), BAD, TEXT, new int[] {0, 255});
        C.of("A text is empty: how many bytes it had. BAD");
        ranges("wipe", (x, a) -> x.wipe(a[0]), BAD, TEXT);
        C.of("The last byte of a text is undone: how many are left. BAD");
        ranges("undo", (x, a) -> x.undo(a[0]), BAD, TEXT);
        C.of("The FAULT of a text; NONE. BAD");
        ranges("fault", (x, a) -> x.fault(a[0]), BAD, TEXT);
        C.of("WHO (what = 0) .. the MATTER by which (5; NONE). BAD");
        ranges("matter", (x, a) -> x.matter(a[0], a[1]), BAD, THREE, new int[] {0, 5});
    }

    private static void numbersOfSettings() {
        C.of("LAG (1 to 20 days)");
        ranges("set 0", (x, a) -> x.set(0, a[0]), BAD, new int[] {1, 20});
        C.of("GRACE (0 to 9 days)");
        ranges("set 1", (x, a) -> x.set(1, a[0]), BAD, new int[] {0, 9});
        C.of("FINE (0 to 99)");
        ranges("set 2", (x, a) -> x.set(2, a[0]), BAD, new int[] {0, 99});
        C.of("LET OFF (bits of the numbers 0 to 9)");
        ranges("set 3", (x, a) -> x.set(3, a[0]), BAD, new int[] {0, 1023});
        C.of("LAG (what = 0), GRACE (1), FINE (2), LET OFF (3, bits): what it was. BAD");
        ranges("set", (x, a) -> x.set(a[0], 1), BAD, new int[] {0, 3});
        C.of("WORTH of a MATTER (0 to 9), as any number: what it was. BAD: -1002; (-9 to 9)");
        ranges("worth", (x, a) -> x.worth(a[0], a[1]), -1002, new int[] {0, 9}, new int[] {-9, 9});
        C.of("SEEN from a SHEET .. BAD");
        ranges("read", (x, a) -> x.read(a[0]), BAD, SHEET);
    }

    private static void numbersOfRows() {
        C.of("ROWS: how many (i = NONE), the i-th (0 to 1023; NONE). BAD");
        ranges("rows", (x, a) -> x.rows(a[0]), BAD, new int[] {-1, 1023});
        C.of("SURE: in all (what = 1), in none (0), as bits. BAD");
        ranges("sure", (x, a) -> x.sure(a[0]), BAD, ONE_OR_OTHER);
        C.of("CANNOT: how many (what = 0), as bits (1); NONE. BAD");
        ranges("cannot", (x, a) -> x.cannot(a[0]), BAD, ONE_OR_OTHER);
        C.of("FREED: how many (what = 0), as bits (1). BAD");
        ranges("freed", (x, a) -> x.freed(a[0]), BAD, ONE_OR_OTHER);
        C.of("BROKEN. BAD (bits 0 to 1023)");
        ranges("broken", (x, a) -> x.broken(a[0]), BAD, ROW);
        C.of("NEAREST; NONE. BAD");
        ranges("nearest", (x, a) -> x.nearest(a[0]), BAD, ROW);
        C.of("STEPS. BAD; behind k (0 to 99) such steps");
        ranges("steps", (x, a) -> x.steps(a[0], a[1]), BAD, ROW, new int[] {0, 99});
        C.of("RETURNS: till they come again (what = 0), the ring (1). BAD");
        ranges("returns", (x, a) -> x.returns(a[0], a[1]), BAD, ROW, ONE_OR_OTHER);
        C.of("HANGS, as bits. BAD");
        ranges("hangs", (x, a) -> x.hangs(a[0]), BAD, THREE);
    }

    private static void numbersOfDays() {
        C.of("HAD, as bits. BAD; by a DAY (0 to 99)");
        ranges("had", (x, a) -> x.had(a[0], a[1], a[2]), BAD, ROW, PERSON, DAY);
        C.of("ASKED, as bits. BAD");
        ranges("asked", (x, a) -> x.asked(a[0], a[1], a[2]), BAD, ROW, PERSON, DAY);
        C.of("OPEN, as bits. BAD");
        ranges("open", (x, a) -> x.open(a[0], a[1]), BAD, ROW, DAY);
        C.of("BEST: the worth (what = 0 ..), the ROW (1; NONE). BAD: -1002");
        ranges("best", (x, a) -> x.best(a[0], a[1]), -1002, PERSON, ONE_OR_OTHER);
        C.of("REST. BAD");
        ranges("rest", (x, a) -> x.rest(a[0], a[1]), BAD, ROW, PERSON);
    }

    private static void numbersOfReplies() {
        C.of("OWED; of all (person = NONE). BAD");
        ranges("owed", (x, a) -> x.owed(a[0]), BAD, new int[] {-1, 5});
        C.of("FINES. BAD");
        ranges("fines", (x, a) -> x.fines(a[0]), BAD, PERSON);
        C.of("SEEN more: how many. BAD; a MATTER (0 to 9) was WRITTEN (1), or not (0)");
        ranges("seen", (x, a) -> x.seen(a[0], a[1]), BAD, new int[] {0, 9}, ONE_OR_OTHER);
        C.of("REFUSED: how many ROWS (what = 0), MATTERS as bits (1 ..). BAD");
        ranges("refused", (x, a) -> x.refused(a[0]), BAD, ONE_OR_OTHER);
        C.of("LOT: .. BAD (n 0 to 99)");
        ranges("lot", (x, a) -> x.lot(a[0], a[1]), BAD, ANY, new int[] {0, 99});
    }

    private static void numbersOfSheets() {
        C.of("A SHEET is a new row of a FORM with n items: n. BAD: SHEET, FORM, above 48");
        ranges("sheet", (x, a) -> x.sheet(a[0], a[1], a[2]), BAD, SHEET, FORM, new int[] {LEAST_INT, 48});
        C.of("It is LOST: how many items it had. BAD");
        ranges("lose", (x, a) -> x.lose(a[0]), BAD, SHEET);
        C.of("Item i, treated as of a FORM, becomes v .. BAD");
        ranges("put", (x, a) -> x.put(a[0], a[1], a[2], a[3]), BAD, SHEET, FORM, ANY, ANY);
        C.of("n items of SHEET s .. come to SHEET t .. BAD: the SHEETS");
        ranges("copy", (x, a) -> x.copy(a[0], a[2], a[1], a[3], a[4]), BAD, SHEET, SHEET, ANY, ANY, ANY);
        C.of("ROWS .. come to a SHEET .. BAD");
        ranges("write", (x, a) -> x.write(a[0]), BAD, SHEET);
        C.of("0 MATTERS .. 8 the number of the latest FINDING (0 before any). BAD");
        ranges("count", (x, a) -> x.count(a[0]), BAD, new int[] {0, 8});
        C.of("Item i of it. BAD: the least int");
        int[][] bad = {{-1, 0, 0}, {4, 0, 0}, {0, -1, 0}, {0, 3, 0}, {LEAST_INT, 0, 0}, {MOST_INT, 0, 0},
            {0, LEAST_INT, 0}, {0, MOST_INT, 0}};
        for (int[] a : bad) {
            refuses("get", RefusalsTest::busy, (x, b) -> x.get(b[0], b[1], b[2]), a, LEAST_INT, SILENT);
        }
        int[][] well = {{0, 0, 0, 1}, {0, 0, 2, 3}, {1, 1, 1, -2}, {2, 2, 0, 70000}, {2, 2, 3, -1}};
        for (int[] a : well) {
            C.due("get" + java.util.Arrays.toString(a), busy().get(a[0], a[1], a[2]), a[3]);
        }
    }

    // ---- FULL

    private static void full() {
        C.of("A byte (0 to 255) comes behind a text (0 to 2): .. FULL; up to 80 bytes, up to 60 bytes");
        int[] most = {80, 60, 60};
        for (int t = 0; t < 3; t++) {
            int text = t;
            C.due("type, the last", withText(text, most[text] - 1).type(text, 'x'), most[text]);
            for (int b : new int[] {0, '0', ';', 255}) {
                refuses("type, one more", () -> withText(text, most[text]), (x, a) -> x.type(text, b), FULL, SILENT);
            }
        }
        C.of("SEEN, 8 at most; SEEN more: how many. .. FULL");
        C.due("seen, the last", withSeen(7).seen(9, 1), 8);
        for (int is = 0; is < 2; is++) {
            int[] a = {9, is};
            refuses("seen, one more", () -> withSeen(8), (x, b) -> x.seen(b[0], b[1]), a, FULL, SILENT);
        }
    }

    // ---- NOT

    private static void not() {
        for (int t = 0; t < 3; t++) {
            int text = t;
            C.of("NOT: it is empty");
            refuses("undo " + text, AnswersFirst::new, (x, a) -> x.undo(text), NOT, SILENT);
            C.due("undo, the last that there is", withText(text, 1).undo(text), 0);
        }
        C.of("REST. BAD; NOT: it does not FIT ITSELF");
        for (int row : new int[] {0, 3, 4, 7, 1023}) {
            refuses("rest " + row, RefusalsTest::busy, (x, a) -> x.rest(row, 0), NOT, SILENT);
        }
        for (int row : new int[] {1, 2, 5, 6, 1016 + 1, 1016 + 6}) {
            C.isTrue("rest " + row + " is 1 or 0", busy().rest(row, 0) >= 0);
        }
        for (int row = 0; row < 2; row++) {
            int[] a = {row, 0};
            refuses("rest, no row", RefusalsTest::withoutRows, (x, b) -> x.rest(b[0], b[1]), a, NOT, SILENT);
        }
        C.of("NOT, there is no ROW: -1003; where any number is told, a refusal is -1000 less x");
        for (int person = 0; person < 6; person++) {
            int[] a = {person, 0};
            refuses("best", RefusalsTest::withoutRows, (x, b) -> x.best(b[0], b[1]), a, -1003, SILENT);
        }
        refuses("best, the ROW", RefusalsTest::withoutRows, (x, a) -> x.best(0, 1), -1, SILENT);
        C.due("best, no matters: there is a ROW", new AnswersFirst().best(0, 0), 0);
        C.due("best, a fault: there is a ROW", withFaults().best(0, 0), 0);
    }

    // ---- FINDINGS

    private static void nulls() {
        C.of("1 NULL: the SHEET is LOST");
        for (int i = 0; i < 4; i++) {
            int s = i;
            State lost = () -> {
                AnswersFirst x = busy();
                x.lose(s);
                x.sheet(s, 0, -1);
                return x;
            };
            refuses("read", lost, (x, a) -> x.read(s), -11, 1);
            refuses("lose", lost, (x, a) -> x.lose(s), -11, 1);
            refuses("put", lost, (x, a) -> x.put(s, 0, 0, 1), -11, 1);
            refuses("get", lost, (x, a) -> x.get(s, 0, 0), LEAST_INT, 1);
            refuses("write", lost, (x, a) -> x.write(s), -11, 1);
            refuses("copy from it", lost, (x, a) -> x.copy(s, 0, (s + 1) % 3, 0, 0), -11, 1);
            refuses("copy to it", lost, (x, a) -> x.copy((s + 1) % 3, 0, s, 0, 0), -11, 1);
            refuses("copy to itself", lost, (x, a) -> x.copy(s, 0, s, 0, 0), -11, 1);
        }
        C.of("all SHEETS are LOST");
        for (int i = 0; i < 4; i++) {
            int s = i;
            refuses("read", AnswersFirst::new, (x, a) -> x.read(s), -11, 1);
            refuses("write", AnswersFirst::new, (x, a) -> x.write(s), -11, 1);
        }
    }

    private static void otherFindings() {
        State busy = RefusalsTest::busy;
        C.of("5 SIZE: below 0");
        for (int n : new int[] {-1, -2, LEAST_INT}) {
            refuses("sheet", busy, (x, a) -> x.sheet(1, 2, n), -15, 5);
        }
        C.due("sheet, none is not below 0", busy().sheet(1, 2, 0), 0);
        C.of("3 CAST: it has another FORM");
        for (int s = 0; s < 3; s++) {
            for (int form = 0; form < 3; form++) {
                int[] a = {s, form};
                if (form != s) {
                    refuses("put", busy, (x, b) -> x.put(b[0], b[1], 0, 1), a, -13, 3);
                    refuses("get", busy, (x, b) -> x.get(b[0], b[1], 0), a, LEAST_INT, 3);
                } else {
                    C.due("put, its own form", busy().put(s, form, 0, 1), 1);
                }
            }
        }
        C.of("2 INDEX: there is no such item");
        int[] items = {3, 2, 4};
        for (int s = 0; s < 3; s++) {
            for (int i : new int[] {-1, items[s], 48, LEAST_INT, MOST_INT}) {
                int[] a = {s, i};
                refuses("put", busy, (x, b) -> x.put(b[0], b[0], b[1], 1), a, -12, 2);
                refuses("get", busy, (x, b) -> x.get(b[0], b[0], b[1]), a, LEAST_INT, 2);
            }
            C.due("put, the first", busy().put(s, s, 0, 1), 1);
            C.due("put, the last", busy().put(s, s, items[s] - 1, 1), 1);
        }
        C.of("4 STORE: unlike FORMS");
        int[][] unlike = {{0, 1}, {0, 2}, {1, 0}, {1, 2}, {2, 0}, {2, 1}};
        for (int[] a : unlike) {
            refuses("copy", busy, (x, b) -> x.copy(b[0], 0, b[1], 0, 1), a, -14, 4);
            refuses("copy none", busy, (x, b) -> x.copy(b[0], 0, b[1], 0, 0), a, -14, 4);
        }
        C.of("INDEX: below 0, not so many");
        int[][] runs = {{-1, 0, 1}, {0, -1, 1}, {0, 0, -1}, {0, 0, 5}, {1, 0, 4}, {0, 1, 4}, {4, 0, 1}, {0, 4, 1},
            {5, 0, 0}, {0, 5, 0}, {LEAST_INT, 0, 1}, {0, LEAST_INT, 1}, {0, 0, LEAST_INT}, {MOST_INT, 0, 1},
            {0, MOST_INT, 1}, {0, 0, MOST_INT}, {MOST_INT, 0, MOST_INT}, {1, 1, MOST_INT}, {-1, 0, 0}, {0, -1, 0}};
        for (int[] a : runs) {
            refuses("copy 2", busy, (x, b) -> x.copy(2, b[0], 2, b[1], b[2]), a, -12, 2);
        }
    }

    // ---- the first that fits, in the order told at each act

    private static void firstThatFits() {
        C.of("Refusals, the first that fits, in the order told at each act");
        for (int t = 0; t < 3; t++) {
            int text = t;
            State full = () -> withText(text, text == 0 ? 80 : 60);
            refuses("type: BAD, FULL", full, (x, a) -> x.type(text, 256), BAD, SILENT);
            refuses("type: BAD, FULL", full, (x, a) -> x.type(text, -1), BAD, SILENT);
        }
        refuses("undo: BAD, NOT", AnswersFirst::new, (x, a) -> x.undo(3), BAD, SILENT);
        refuses("rest: BAD, NOT", RefusalsTest::withoutRows, (x, a) -> x.rest(0, 6), BAD, SILENT);
        refuses("rest: BAD, NOT", RefusalsTest::withoutRows, (x, a) -> x.rest(1024, 0), BAD, SILENT);
        refuses("best: BAD, NOT", RefusalsTest::withoutRows, (x, a) -> x.best(6, 0), -1002, SILENT);
        refuses("best: BAD, NONE", RefusalsTest::withoutRows, (x, a) -> x.best(-1, 1), -1002, SILENT);
        refuses("seen: BAD, FULL", () -> withSeen(8), (x, a) -> x.seen(10, 0), BAD, SILENT);
        refuses("seen: BAD, FULL", () -> withSeen(8), (x, a) -> x.seen(0, 2), BAD, SILENT);
        State busy = RefusalsTest::busy;
        refuses("sheet: BAD, SIZE", busy, (x, a) -> x.sheet(4, 0, -1), BAD, SILENT);
        refuses("sheet: BAD, SIZE", busy, (x, a) -> x.sheet(0, 3, -1), BAD, SILENT);
        refuses("put: BAD, NULL", busy, (x, a) -> x.put(3, 3, 0, 0), BAD, SILENT);
        refuses("put: NULL, INDEX", busy, (x, a) -> x.put(3, 0, -1, 0), -11, 1);
        refuses("put: BAD, CAST, INDEX", busy, (x, a) -> x.put(0, 3, 99, 0), BAD, SILENT);
        refuses("put: CAST, INDEX", busy, (x, a) -> x.put(0, 1, 99, 0), -13, 3);
        refuses("get: BAD, NULL", busy, (x, a) -> x.get(3, 3, 0), LEAST_INT, SILENT);
        refuses("get: NULL, INDEX", busy, (x, a) -> x.get(3, 0, -1), LEAST_INT, 1);
        refuses("get: CAST, INDEX", busy, (x, a) -> x.get(0, 1, 99), LEAST_INT, 3);
        refuses("copy: BAD, NULL", busy, (x, a) -> x.copy(3, 0, 4, 0, 0), BAD, SILENT);
        refuses("copy: BAD, NULL", busy, (x, a) -> x.copy(-1, 0, 3, 0, 0), BAD, SILENT);
        refuses("copy: NULL, INDEX", busy, (x, a) -> x.copy(3, -1, 0, 0, 0), -11, 1);
        refuses("copy: NULL, INDEX", busy, (x, a) -> x.copy(0, 0, 3, 0, -1), -11, 1);
        refuses("copy: STORE, INDEX", busy, (x, a) -> x.copy(0, -1, 1, -1, -1), -14, 4);
    }
}
