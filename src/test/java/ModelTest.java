import java.util.Random;

/** Runs of calls drawn by a fixed seed, each answer held against the model's. */
public final class ModelTest {
    private static final int RUNS = 800;
    /** With the texts that may come behind, and with the digest by its calls, 512 calls are not passed. */
    private static final int MOST_CALLS = 220;
    private static final int WHOLE_LIVES = 100, LIFE = 512;
    /** A text, wiped, typed and asked for its fault; for replies and letters two of them. */
    private static final int MOST_AT_ONCE = 130;
    private static final Checks C = new Checks();

    private final Random random;
    private final AnswersFirst x = new AnswersFirst();
    private final Model y = new Model();

    private ModelTest(long seed) {
        random = new Random(seed);
    }

    public static void main(String[] args) {
        for (int run = 0; run < RUNS; run++) {
            ModelTest one = new ModelTest(run);
            one.go(MOST_CALLS, MOST_CALLS);
            C.due("digest()", one.x.digest(), DigestByCalls.of(one.x));
        }
        for (int run = 0; run < WHOLE_LIVES; run++) {
            new ModelTest(RUNS + run).go(LIFE, LIFE - MOST_AT_ONCE);
        }
        C.end();
    }

    /** So many calls; no text any more behind those of the second number. */
    private void go(int most, int withTexts) {
        int calls = 0;
        while (calls < most) {
            int act = calls < withTexts ? random.nextInt(20) : 2;
            if (act == 0) {
                calls += say(0, matters());
            } else if (act == 1) {
                calls += say(1, letters(0));
                calls += say(2, letters(y.count(7)));
            } else {
                call(random.nextInt(41));
                calls++;
            }
        }
        C.isTrue("a life has " + LIFE + " calls", calls <= LIFE);
    }

    private int say(int text, String signs) {
        C.due("wipe", x.wipe(text), y.wipe(text));
        for (int i = 0; i < signs.length(); i++) {
            C.due("type", x.type(text, signs.charAt(i)), y.type(text, signs.charAt(i)));
        }
        C.due("fault of " + signs, x.fault(text), y.fault(text));
        return signs.length() + 2;
    }

    private int below(int n) {
        return random.nextInt(n);
    }

    private char sign(String signs) {
        return signs.charAt(below(signs.length()));
    }

    private String pair() {
        int who = below(6);
        return "" + who + (who + 1 + below(5)) % 6;
    }

    /** Mostly well, with days near one another, so that some replies are known and some are not. */
    private String matters() {
        StringBuilder all = new StringBuilder();
        int n = below(12);
        int days = 1 + below(40);
        for (int i = 0; i < n; i++) {
            all.append(i == 0 ? "" : ";").append(pair()).append(twoFigures(below(days) + below(60)));
            all.append(sign("yn"));
            char when = sign("aeyyynnnssss");
            all.append(when);
            if (when != 'a' && when != 'e') {
                all.append(below(8) == 0 ? below(10) : below(Math.min(n, 10)));
            }
        }
        return spoiled(all, "0123456789yns;ae");
    }

    private String letters(int later) {
        StringBuilder all = new StringBuilder();
        int n = below(12);
        for (int i = 0; i < n; i++) {
            String who = below(3) == 0 ? pair() : later > 0 ? "10" : "01";
            all.append(i == 0 ? "" : ";").append(twoFigures(later + below(8))).append(who);
        }
        return spoiled(all, "0123456789;");
    }

    private static String twoFigures(int n) {
        return n < 10 ? "0" + n : "" + n % 100;
    }

    private String spoiled(StringBuilder all, String signs) {
        if (below(6) == 0 && all.length() > 0) {
            all.setCharAt(below(all.length()), below(5) == 0 ? (char) below(256) : sign(signs));
        }
        return all.toString();
    }

    /** Mostly from least to most, at times just outside or far from it. */
    private int number(int least, int most) {
        int kind = below(24);
        if (kind == 0) {
            return least - 1;
        }
        if (kind == 1) {
            return most + 1;
        }
        if (kind == 2) {
            return random.nextInt();
        }
        return least + below(most - least + 1);
    }

    private int row() {
        return number(0, 1023);
    }

    private void call(int which) {
        if (which < 9) {
            callTexts(which);
        } else if (which < 19) {
            callRows(which);
        } else if (which < 32) {
            callDays(which);
        } else {
            callSheets(which);
        }
    }

    private void callTexts(int which) {
        int text = number(0, 2);
        int what = number(0, 8);
        int v = number(0, 20);
        switch (which) {
            case 0 -> {
                int b = below(3) == 0 ? number(0, 255) : sign("0123456789;aeyns");
                C.due("type", x.type(text, b), y.type(text, b));
            }
            case 1 -> C.due("undo", x.undo(text), y.undo(text));
            case 2 -> C.due("fault", x.fault(text), y.fault(text));
            case 3 -> C.due("matter", x.matter(what, v % 7), y.matter(what, v % 7));
            case 4 -> C.due("set", x.set(what % 2, v), y.set(what % 2, v));
            case 5 -> {
                int bits = row() & row() & row();
                C.due("set", x.set(3, bits), y.set(3, bits));
            }
            case 6 -> C.due("set", x.set(what, v * 7), y.set(what, v * 7));
            case 7 -> C.due("worth", x.worth(what, v - 10), y.worth(what, v - 10));
            default -> C.due("read", x.read(v % 5), y.read(v % 5));
        }
    }

    private void callRows(int which) {
        int row = row();
        int what = number(0, 1);
        int k = number(0, 99);
        switch (which) {
            case 9 -> {
                int i = below(2) == 0 ? number(-1, 8) : number(-1, 1023);
                C.due("rows", x.rows(i), y.rows(i));
            }
            case 10 -> C.due("sure", x.sure(what), y.sure(what));
            case 11 -> C.due("cannot", x.cannot(what), y.cannot(what));
            case 12 -> C.due("freed", x.freed(what), y.freed(what));
            case 13 -> C.due("broken", x.broken(row), y.broken(row));
            case 14 -> C.due("nearest", x.nearest(row), y.nearest(row));
            case 15 -> C.due("steps", x.steps(row, k), y.steps(row, k));
            case 16 -> C.due("returns", x.returns(row, what), y.returns(row, what));
            case 17 -> C.due("hangs", x.hangs(k % 11), y.hangs(k % 11));
            default -> C.due("rings", x.rings(), y.rings());
        }
    }

    private void callDays(int which) {
        int row = row();
        int person = number(0, 5);
        int day = number(0, 99);
        int what = number(0, 1);
        switch (which) {
            case 19 -> C.due("had", x.had(row, person, day), y.had(row, person, day));
            case 20 -> C.due("asked", x.asked(row, person, day), y.asked(row, person, day));
            case 21 -> C.due("open", x.open(row, day), y.open(row, day));
            case 22 -> C.due("best", x.best(person, what), y.best(person, what));
            case 23 -> {
                int first = below(3) == 0 || y.rows(0) < 0 ? row : y.rows(below(y.rows(-1)));
                C.due("rest", x.rest(first, person), y.rest(first, person));
            }
            case 24 -> C.due("owed", x.owed(person), y.owed(person));
            case 25 -> C.due("owed", x.owed(-1), y.owed(-1));
            case 26 -> C.due("lack", x.lack(), y.lack());
            case 27 -> C.due("unasked", x.unasked(), y.unasked());
            case 28 -> C.due("fines", x.fines(person), y.fines(person));
            case 29 -> C.due("seen", x.seen(day % 11, what), y.seen(day % 11, what));
            case 30 -> C.due("refused", x.refused(what), y.refused(what));
            default -> {
                if (below(4) == 0) {
                    C.due("forget", x.forget(), y.forget());
                } else {
                    int seed = random.nextInt();
                    int n = below(3) == 0 ? 0 : day;
                    C.due("lot", x.lot(seed, n), y.lot(seed, n));
                }
            }
        }
    }

    private void callSheets(int which) {
        int s = number(0, 3);
        int t = number(0, 3);
        int form = number(0, 2);
        int i = number(0, 12);
        int v = below(2) == 0 ? below(2) : random.nextInt();
        switch (which) {
            case 32, 33 -> C.due("sheet", x.sheet(s, form, i), y.sheet(s, form, i));
            case 34 -> C.due("lose", x.lose(s), y.lose(s));
            case 35, 36 -> C.due("put", x.put(s, form, i, v), y.put(s, form, i, v));
            case 37 -> C.due("get", x.get(s, form, i), y.get(s, form, i));
            case 38 -> {
                int j = number(0, 6);
                int n = number(0, 6);
                C.due("copy", x.copy(s, i, t, j, n), y.copy(s, i, t, j, n));
            }
            case 39 -> C.due("write", x.write(s), y.write(s));
            default -> {
                int what = number(0, 8);
                C.due("count", x.count(what), y.count(what));
            }
        }
    }
}
