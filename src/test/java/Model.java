import java.util.ArrayList;
import java.util.List;
import java.util.regex.Matcher;
import java.util.regex.Pattern;

/** The document told once more, as plainly and slowly as it can be: what AnswersFirst is held against. */
final class Model {
    private static final int NONE = -1, BAD = -2, NOT = -3, FULL = -4;
    private static final Pattern MATTERS = upToTen("([0-5])(?!\\%d)[0-5][0-9][0-9][yn](?:[ae]|[yns][0-9])");
    private static final Pattern LETTERS = upToTen("[0-9][0-9]([0-5])(?!\\%d)[0-5]");

    private final StringBuilder[] texts = {new StringBuilder(), new StringBuilder(), new StringBuilder()};
    private final int[] settings = {9, 0, 5, 0};
    private final int[] worths = {1, 1, 1, 1, 1, 1, 1, 1, 1, 1};
    private final List<int[]> seen = new ArrayList<>();
    private final Object[] sheets = new Object[4];
    private int finding;

    // Kept only because the tests would take too long without: the latest texts with their faults,
    // the latest matters, the latest table of rows.
    private final String[] faultOf = new String[3];
    private final int[] faults = new int[3];
    private int[][] mattersNow = new int[0][];
    private String mattersOf = "";
    private int[] tableNow;
    private String tableOf = "";

    // ---- texts

    int type(int text, int b) {
        if (text < 0 || text > 2 || b < 0 || b > 255) {
            return BAD;
        }
        if (texts[text].length() == (text == 0 ? 80 : 60)) {
            return FULL;
        }
        return texts[text].append((char) b).length();
    }

    int wipe(int text) {
        if (text < 0 || text > 2) {
            return BAD;
        }
        int had = texts[text].length();
        texts[text].setLength(0);
        return had;
    }

    int undo(int text) {
        if (text < 0 || text > 2) {
            return BAD;
        }
        if (texts[text].length() == 0) {
            return NOT;
        }
        texts[text].setLength(texts[text].length() - 1);
        return texts[text].length();
    }

    int fault(int text) {
        if (text < 0 || text > 2) {
            return BAD;
        }
        String all = texts[text].toString();
        if (!all.equals(faultOf[text])) {
            faultOf[text] = all;
            faults[text] = faultIn(all, text == 0 ? MATTERS : LETTERS);
        }
        return faults[text];
    }

    /** Ten entries at most with ; between them, each with a group of its own for WHO. */
    private static Pattern upToTen(String entry) {
        StringBuilder some = new StringBuilder();
        StringBuilder ends = new StringBuilder();
        for (int i = 1; i <= 10; i++) {
            some.append(i > 1 ? "(?:;" : "(?:").append(String.format(entry, i));
            ends.append(")?");
        }
        return Pattern.compile(some.toString() + ends);
    }

    private static int faultIn(String all, Pattern pattern) {
        if (pattern.matcher(all).matches()) {
            return NONE;
        }
        for (int k = all.length(); k > 0; k--) {
            String part = all.substring(0, k);
            Matcher m = pattern.matcher(part);
            boolean canGoOn = m.matches() || m.hitEnd();
            boolean isEnded = k > 1 && part.endsWith(";") && pattern.matcher(part.substring(0, k - 1)).matches();
            if (canGoOn || isEnded) {
                return k;
            }
        }
        return 0;
    }

    private String[] entries(int text) {
        if (texts[text].length() == 0 || fault(text) != NONE) {
            return new String[0];
        }
        return texts[text].toString().split(";");
    }

    private int[][] parsed() {
        if (!mattersOf.equals(texts[0].toString())) {
            mattersOf = texts[0].toString();
            String[] entries = entries(0);
            mattersNow = new int[entries.length][];
            for (int m = 0; m < entries.length; m++) {
                mattersNow[m] = parts(entries[m]);
            }
        }
        return mattersNow;
    }

    private static int[] parts(String e) {
        int by = e.length() == 7 ? e.charAt(6) - '0' : NONE;
        return new int[] {e.charAt(0) - '0', e.charAt(1) - '0', Integer.parseInt(e.substring(2, 4)),
            "ny".indexOf(e.charAt(4)), "aeyns".indexOf(e.charAt(5)), by};
    }

    private int matters() {
        return parsed().length;
    }

    int matter(int matter, int what) {
        if (matter < 0 || matter >= matters() || what < 0 || what > 5) {
            return BAD;
        }
        return parsed()[matter][what];
    }

    int set(int what, int v) {
        int[] least = {1, 0, 0, 0};
        int[] most = {20, 9, 99, 1023};
        if (what < 0 || what > 3 || v < least[what] || v > most[what]) {
            return BAD;
        }
        int was = settings[what];
        settings[what] = v;
        return was;
    }

    int worth(int matter, int v) {
        if (matter < 0 || matter > 9 || v < -9 || v > 9) {
            return -1002;
        }
        int was = worths[matter];
        worths[matter] = v;
        return was;
    }

    int read(int s) {
        if (s < 0 || s > 3) {
            return BAD;
        }
        if (sheets[s] == null) {
            return found(1);
        }
        int read = 0;
        while (2 * read + 1 < length(s) && seen(item(s, 2 * read), item(s, 2 * read + 1)) > 0) {
            read++;
        }
        return read;
    }

    // ---- rows

    private int all() {
        return (1 << matters()) - 1;
    }

    /** Whether a matter is to be written, by the replies to those in a row. */
    private boolean should(int m, int row) {
        int when = matter(m, 4);
        if (when < 2) {
            return when == 0;
        }
        int by = matter(m, 5);
        boolean came = by < matters() && (row >> by & 1) == 1 && isKnown(by, m);
        if (when == 4) {
            return !came;
        }
        return came && matter(by, 3) == (when == 2 ? 1 : 0);
    }

    private boolean isKnown(int by, int m) {
        return matter(by, 2) - settings[0] <= matter(m, 2);
    }

    private int brokenWith(int row, int letOff) {
        int bits = 0;
        for (int m = 0; m < matters(); m++) {
            boolean is = (row >> m & 1) == 1;
            if ((letOff >> m & 1) == 0 && is != should(m, row)) {
                bits |= 1 << m;
            }
        }
        return bits;
    }

    /** For every row what it breaks. */
    private int[] table(int letOff) {
        String of = texts[0] + " " + settings[0] + " " + letOff;
        if (!of.equals(tableOf)) {
            tableOf = of;
            tableNow = new int[all() + 1];
            for (int row = 0; row < tableNow.length; row++) {
                tableNow[row] = brokenWith(row, letOff);
            }
        }
        return tableNow;
    }

    private List<Integer> fitting() {
        return fitting(settings[3]);
    }

    private List<Integer> fitting(int letOff) {
        List<Integer> rows = new ArrayList<>();
        int[] table = table(letOff);
        for (int row = 0; row < table.length; row++) {
            if (table[row] == 0) {
                rows.add(row);
            }
        }
        return rows;
    }

    int rows(int i) {
        if (i < -1 || i > 1023) {
            return BAD;
        }
        List<Integer> rows = fitting();
        return i == -1 ? rows.size() : i < rows.size() ? rows.get(i) : NONE;
    }

    int sure(int what) {
        if (what != 0 && what != 1) {
            return BAD;
        }
        int bits = 0;
        List<Integer> rows = fitting();
        for (int m = 0; m < matters(); m++) {
            boolean so = true;
            for (int row : rows) {
                so &= (row >> m & 1) == what;
            }
            bits |= so ? 1 << m : 0;
        }
        return bits;
    }

    int cannot(int what) {
        if (what != 0 && what != 1) {
            return BAD;
        }
        int[] table = table(settings[3]);
        int best = NONE;
        for (int set = 0; set < table.length; set++) {
            boolean canBe = false;
            for (int broken : table) {
                canBe |= (broken & set) == 0;
            }
            if (!canBe && (best == NONE || Integer.bitCount(set) < Integer.bitCount(best))) {
                best = set;
            }
        }
        return best == NONE || what == 1 ? best : Integer.bitCount(best);
    }

    int freed(int what) {
        if (what != 0 && what != 1) {
            return BAD;
        }
        int[] table = table(settings[3]);
        int best = NONE;
        for (int set = 0; set < table.length; set++) {
            boolean hasRow = false;
            for (int broken : table) {
                hasRow |= (broken & ~set) == 0;
            }
            if (hasRow && (best == NONE || Integer.bitCount(set) < Integer.bitCount(best))) {
                best = set;
            }
        }
        return what == 1 ? best : Integer.bitCount(best);
    }

    int broken(int row) {
        return row < 0 || row > 1023 ? BAD : brokenWith(row, settings[3]);
    }

    int nearest(int row) {
        if (row < 0 || row > 1023) {
            return BAD;
        }
        List<Integer> rows = fitting();
        for (int unlike = 0; unlike <= 10; unlike++) {
            for (int fit : rows) {
                if (Integer.bitCount((fit ^ row) & all()) == unlike) {
                    return fit;
                }
            }
        }
        return NONE;
    }

    private int step(int row) {
        int next = 0;
        for (int m = 0; m < matters(); m++) {
            boolean stays = (settings[3] >> m & 1) == 1;
            boolean is = stays ? (row >> m & 1) == 1 : should(m, row);
            next |= is ? 1 << m : 0;
        }
        return next;
    }

    int steps(int row, int k) {
        if (row < 0 || row > 1023 || k < 0 || k > 99) {
            return BAD;
        }
        int now = row & all();
        for (int i = 0; i < k; i++) {
            now = step(now);
        }
        return now;
    }

    int returns(int row, int what) {
        if (row < 0 || row > 1023 || what < 0 || what > 1) {
            return BAD;
        }
        List<Integer> path = new ArrayList<>();
        int now = row & all();
        while (!path.contains(now)) {
            path.add(now);
            now = step(now);
        }
        return what == 0 ? path.size() : path.size() - path.indexOf(now);
    }

    int hangs(int matter) {
        if (matter < 0 || matter >= matters()) {
            return BAD;
        }
        int bits = 0;
        for (int again = 0; again < 12; again++) {
            for (int m = 0; m < matters(); m++) {
                int by = matter(m, 5);
                boolean counts = m == matter || (bits >> m & 1) == 1;
                if (counts && by != NONE && by < matters() && isKnown(by, m)) {
                    bits |= 1 << by;
                }
            }
        }
        return bits;
    }

    int rings() {
        int bits = 0;
        for (int m = 0; m < matters(); m++) {
            bits |= hangs(m) & (1 << m);
        }
        return bits;
    }

    // ---- days, worth

    int had(int row, int person, int day) {
        if (row < 0 || row > 1023 || person < 0 || person > 5 || day < 0 || day > 99) {
            return BAD;
        }
        int bits = 0;
        for (int m = 0; m < matters(); m++) {
            boolean is = (row >> m & 1) == 1 && matter(m, 0) == person && matter(m, 2) - settings[0] <= day;
            bits |= is ? 1 << m : 0;
        }
        return bits;
    }

    int asked(int row, int person, int day) {
        if (row < 0 || row > 1023 || person < 0 || person > 5 || day < 0 || day > 99) {
            return BAD;
        }
        int bits = 0;
        for (int m = 0; m < matters(); m++) {
            boolean is = (row >> m & 1) == 1 && matter(m, 0) == person && matter(m, 2) <= day;
            bits |= is ? 1 << m : 0;
        }
        return bits;
    }

    int open(int row, int day) {
        if (row < 0 || row > 1023 || day < 0 || day > 99) {
            return BAD;
        }
        int bits = 0;
        for (int person = 0; person < 6; person++) {
            bits |= had(row, person, day) & ~asked(row, person, day);
        }
        return bits;
    }

    private int worthTo(int person, int row) {
        int sum = 0;
        for (int m = 0; m < matters(); m++) {
            sum += (row >> m & 1) == 1 && matter(m, 0) == person ? worths[m] : 0;
        }
        return sum;
    }

    int best(int person, int what) {
        if (person < 0 || person > 5 || what < 0 || what > 1) {
            return -1002;
        }
        List<Integer> rows = fitting();
        for (int worth = 90; worth >= -90; worth--) {
            for (int row : rows) {
                if (worthTo(person, row) == worth) {
                    return what == 0 ? worth : row;
                }
            }
        }
        return what == 0 ? -1003 : NONE;
    }

    int rest(int row, int person) {
        if (row < 0 || row > 1023 || person < 0 || person > 5) {
            return BAD;
        }
        if (!fitting().contains(row & all())) {
            return NOT;
        }
        int letOff = settings[3];
        for (int m = 0; m < matters(); m++) {
            letOff |= matter(m, 0) == person ? 1 << m : 0;
        }
        for (int other : fitting(letOff)) {
            if (worthTo(person, other) > worthTo(person, row)) {
                return 0;
            }
        }
        return 1;
    }

    // ---- replies, letters

    private boolean canBe(String letter, String reply) {
        int days = Integer.parseInt(letter.substring(0, 2)) - Integer.parseInt(reply.substring(0, 2));
        boolean isBack = letter.charAt(2) == reply.charAt(3) && letter.charAt(3) == reply.charAt(2);
        return isBack && days >= settings[0] && days <= settings[0] + settings[1];
    }

    /** The most that can be laid, reply by reply; for each set of letters that are still free. */
    private int mostLaid(List<String> replies) {
        String[] letters = entries(2);
        int[] most = new int[1 << letters.length];
        for (String reply : replies) {
            int[] next = most.clone();
            for (int free = 0; free < most.length; free++) {
                for (int j = 0; j < letters.length; j++) {
                    if ((free >> j & 1) == 1 && canBe(letters[j], reply)) {
                        next[free] = Math.max(next[free], 1 + most[free & ~(1 << j)]);
                    }
                }
            }
            most = next;
        }
        return most[most.length - 1];
    }

    int owed(int person) {
        if (person < -1 || person > 5) {
            return BAD;
        }
        List<String> replies = new ArrayList<>();
        for (String reply : entries(1)) {
            if (person == -1 || reply.charAt(3) - '0' == person) {
                replies.add(reply);
            }
        }
        return replies.size() - mostLaid(replies);
    }

    int lack() {
        String[] replies = entries(1);
        String[] letters = entries(2);
        int best = 0;
        int most = 0;
        for (int set = 0; set < 1 << replies.length; set++) {
            int theirs = 0;
            for (String letter : letters) {
                boolean is = false;
                for (int i = 0; i < replies.length; i++) {
                    is |= (set >> i & 1) == 1 && canBe(letter, replies[i]);
                }
                theirs += is ? 1 : 0;
            }
            int more = Integer.bitCount(set) - theirs;
            if (more > most || more == most && Integer.bitCount(set) < Integer.bitCount(best)) {
                best = set;
                most = more;
            }
        }
        return best;
    }

    int unasked() {
        int bits = 0;
        String[] letters = entries(2);
        for (int j = 0; j < letters.length; j++) {
            boolean is = true;
            for (String reply : entries(1)) {
                is &= !canBe(letters[j], reply);
            }
            bits |= is ? 1 << j : 0;
        }
        return bits;
    }

    int fines(int person) {
        return person < 0 || person > 5 ? BAD : owed(person) * settings[2];
    }

    int seen(int matter, int is) {
        if (matter < 0 || matter > 9 || is < 0 || is > 1) {
            return BAD;
        }
        if (seen.size() == 8) {
            return FULL;
        }
        seen.add(new int[] {matter, is});
        return seen.size();
    }

    int forget() {
        int were = seen.size();
        seen.clear();
        return were;
    }

    int refused(int what) {
        if (what < 0 || what > 1) {
            return BAD;
        }
        List<Integer> rows = fitting();
        rows.removeIf(row -> seen.stream().anyMatch(one -> (row >> one[0] & 1) != one[1]));
        if (what == 0 || rows.isEmpty()) {
            return rows.size();
        }
        int bits = 0;
        for (int m = 0; m < matters(); m++) {
            boolean is = matter(m, 3) == 0;
            for (int row : rows) {
                is &= (row >> m & 1) == 1;
            }
            bits |= is ? 1 << m : 0;
        }
        return bits;
    }

    int lot(int seed, int n) {
        if (n < 0 || n > 99) {
            return BAD;
        }
        long now = seed;
        int fits = 0;
        for (int i = 0; i < Math.max(1, n); i++) {
            int row = 0;
            for (int m = 0; m < matters(); m++) {
                now = Math.floorMod(now * 1103515245L + 12345L, 1L << 32);
                row += (int) (now / 65536 % 2) << m;
            }
            if (n == 0) {
                return row;
            }
            fits += broken(row) == 0 ? 1 : 0;
        }
        return fits;
    }

    // ---- sheets: real rows of the machine's bytes, shorts and ints

    private int found(int number) {
        finding = number;
        return -10 - number;
    }

    private int length(int s) {
        return java.lang.reflect.Array.getLength(sheets[s]);
    }

    private int form(int s) {
        return sheets[s] instanceof byte[] ? 0 : sheets[s] instanceof short[] ? 1 : 2;
    }

    private int item(int s, int i) {
        return java.lang.reflect.Array.getInt(sheets[s], i);
    }

    private void become(int s, int i, int v) {
        if (sheets[s] instanceof byte[] bytes) {
            bytes[i] = (byte) v;
        } else if (sheets[s] instanceof short[] shorts) {
            shorts[i] = (short) v;
        } else if (sheets[s] instanceof int[] ints) {
            ints[i] = v;
        }
    }

    int sheet(int s, int form, int n) {
        if (s < 0 || s > 3 || form < 0 || form > 2 || n > 48) {
            return BAD;
        }
        if (n < 0) {
            return found(5);
        }
        sheets[s] = form == 0 ? new byte[n] : form == 1 ? new short[n] : new int[n];
        return n;
    }

    int lose(int s) {
        if (s < 0 || s > 3) {
            return BAD;
        }
        if (sheets[s] == null) {
            return found(1);
        }
        int had = length(s);
        sheets[s] = null;
        return had;
    }

    private int refusal(int s, int form, int i) {
        if (s < 0 || s > 3 || form < 0 || form > 2) {
            return BAD;
        }
        if (sheets[s] == null) {
            return found(1);
        }
        if (form(s) != form) {
            return found(3);
        }
        return i < 0 || i >= length(s) ? found(2) : 0;
    }

    int put(int s, int form, int i, int v) {
        int refusal = refusal(s, form, i);
        if (refusal != 0) {
            return refusal;
        }
        become(s, i, v);
        return 1;
    }

    int get(int s, int form, int i) {
        return refusal(s, form, i) != 0 ? Integer.MIN_VALUE : item(s, i);
    }

    int copy(int s, int i, int t, int j, int n) {
        if (s < 0 || s > 3 || t < 0 || t > 3) {
            return BAD;
        }
        if (sheets[s] == null || sheets[t] == null) {
            return found(1);
        }
        try {
            System.arraycopy(sheets[s], i, sheets[t], j, n);
        } catch (ArrayStoreException unlike) {
            return found(4);
        } catch (IndexOutOfBoundsException noSuch) {
            return found(2);
        }
        return 1;
    }

    int write(int s) {
        if (s < 0 || s > 3) {
            return BAD;
        }
        if (sheets[s] == null) {
            return found(1);
        }
        List<Integer> rows = fitting();
        int n = 0;
        while (n < rows.size() && n < length(s)) {
            become(s, n, rows.get(n));
            n++;
        }
        return n;
    }

    int count(int what) {
        if (what < 0 || what > 8) {
            return BAD;
        }
        int[] counts = {entries(0).length, entries(1).length, entries(2).length, texts[0].length(),
            texts[1].length(), texts[2].length(), seen.size(), settings[0], finding};
        return counts[what];
    }
}
