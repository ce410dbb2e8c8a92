import java.util.Arrays;

/** A post in which a reply is delivered some days ahead of the letter that it answers; README.md tells its use. */
public final class AnswersFirst {
    public static final int NONE = -1, BAD = -2, NOT = -3, FULL = -4;

    private static final int MATTERS = 0, REPLIES = 1, LETTERS = 2, TEXTS = 3;
    private static final int MOST_ENTRIES = 10, MOST_ROWS = 1024, PERSONS = 6, MOST_DAY = 99;
    private static final int WHO = 0, TO = 1, DAY = 2, WORD = 3, WHEN = 4, BY = 5, PARTS = 6;
    private static final int[] MATTER_FORM = {WHO, TO, DAY, DAY, WORD, WHEN, BY};
    private static final int[] LETTER_FORM = {DAY, DAY, WHO, TO};
    private static final int ALWAYS = 0, IF_YES = 2, IF_NO = 3, IF_SILENCE = 4;
    private static final int LAG = 0, GRACE = 1, FINE = 2, LET_OFF = 3, SETTINGS = 4;
    private static final int[] LEAST_SETTING = {1, 0, 0, 0};
    private static final int[] MOST_SETTING = {20, 9, 99, 1023};
    private static final int MOST_SEEN = 8, MOST_WORTH = 9, MOST_STEPS = 99, MOST_LOTS = 99;
    private static final int SHEETS = 4, FORMS = 3, MOST_ITEMS = 48;
    private static final int NULL = 1, INDEX = 2, CAST = 3, STORE = 4, SIZE = 5;
    private static final int ANY_NUMBER = -1000, LEAST_INT = 1 << 31, FINDING = -10, WELL = 0;

    private final Text[] texts = {new Text(80), new Text(60), new Text(60)};
    private final Entries[] entries = {
        new Entries(MATTER_FORM), new Entries(LETTER_FORM), new Entries(LETTER_FORM)
    };
    private final int[] settings = {9, 0, 5, 0};
    private final int[] worths = {1, 1, 1, 1, 1, 1, 1, 1, 1, 1};
    private final Rows rows = new Rows();
    private boolean rowsAreOld = true;
    private final Accounts accounts = new Accounts();
    private boolean accountsAreOld = true;
    private final Seen seen = new Seen();
    private final Lots lots = new Lots();
    private final Sheet[] sheets = {new Sheet(), new Sheet(), new Sheet(), new Sheet()};
    private int latestFinding;

    public AnswersFirst() {
    }

    // ---- texts

    public int type(int text, int b) {
        if (isOutside(text, TEXTS) || b < 0 || b > 255) {
            return BAD;
        }
        if (texts[text].isFull()) {
            return FULL;
        }
        texts[text].append(b);
        entries[text].take(b);
        markOld();
        return texts[text].length();
    }

    public int wipe(int text) {
        if (isOutside(text, TEXTS)) {
            return BAD;
        }
        int had = texts[text].length();
        texts[text].clearAll();
        entries[text].begin();
        markOld();
        return had;
    }

    public int undo(int text) {
        if (isOutside(text, TEXTS)) {
            return BAD;
        }
        if (texts[text].length() == 0) {
            return NOT;
        }
        texts[text].dropLast();
        entries[text].readAgain(texts[text]);
        markOld();
        return texts[text].length();
    }

    public int fault(int text) {
        if (isOutside(text, TEXTS)) {
            return BAD;
        }
        return entries[text].faultPlace();
    }

    public int matter(int matter, int what) {
        if (isNoMatter(matter) || isOutside(what, PARTS)) {
            return BAD;
        }
        return entries[MATTERS].part(matter, what);
    }

    public int set(int what, int v) {
        if (isOutside(what, SETTINGS) || v < LEAST_SETTING[what] || v > MOST_SETTING[what]) {
            return BAD;
        }
        int was = settings[what];
        settings[what] = v;
        markOld();
        return was;
    }

    public int worth(int matter, int v) {
        if (isOutside(matter, MOST_ENTRIES) || v < -MOST_WORTH || v > MOST_WORTH) {
            return ANY_NUMBER + BAD;
        }
        int was = worths[matter];
        worths[matter] = v;
        return was;
    }

    public int read(int s) {
        if (isOutside(s, SHEETS)) {
            return BAD;
        }
        if (sheets[s].isLost()) {
            return finding(NULL);
        }
        int before = seen.howMany();
        for (int i = 0; i + 1 < sheets[s].length(); i += 2) {
            int matter = sheets[s].item(i);
            int is = sheets[s].item(i + 1);
            if (isNotSeeable(matter, is) || seen.isFull()) {
                break;
            }
            seen.add(matter, is);
        }
        return seen.howMany() - before;
    }

    // ---- rows

    public int rows(int i) {
        if (i < NONE || i >= MOST_ROWS) {
            return BAD;
        }
        return i == NONE ? rowsNow().howMany() : rowsNow().nth(i);
    }

    public int sure(int what) {
        if (isOutside(what, 2)) {
            return BAD;
        }
        return what == 1 ? rowsNow().inAll() : rowsNow().inNone();
    }

    public int cannot(int what) {
        if (isOutside(what, 2)) {
            return BAD;
        }
        int clash = rowsNow().fewestClashing();
        return what == 1 || clash == NONE ? clash : Integer.bitCount(clash);
    }

    public int freed(int what) {
        if (isOutside(what, 2)) {
            return BAD;
        }
        int fewest = rowsNow().fewestBroken();
        return what == 1 ? fewest : Integer.bitCount(fewest);
    }

    public int broken(int row) {
        if (isNoRow(row)) {
            return BAD;
        }
        return rowsNow().brokenBy(row);
    }

    public int nearest(int row) {
        if (isNoRow(row)) {
            return BAD;
        }
        return rowsNow().closestTo(row);
    }

    public int steps(int row, int k) {
        if (isNoRow(row) || k < 0 || k > MOST_STEPS) {
            return BAD;
        }
        return rowsNow().behindSteps(row, k);
    }

    public int returns(int row, int what) {
        if (isNoRow(row) || isOutside(what, 2)) {
            return BAD;
        }
        return rowsNow().stepsToReturn(row, what == 1);
    }

    public int hangs(int matter) {
        if (isNoMatter(matter)) {
            return BAD;
        }
        return rowsNow().hangingOn(matter);
    }

    public int rings() {
        return rowsNow().inRings();
    }

    // ---- days, worth

    public int had(int row, int person, int day) {
        if (isNoRow(row) || isOutside(person, PERSONS) || isNoDay(day)) {
            return BAD;
        }
        return row & entries[MATTERS].with(WHO, person) & entries[MATTERS].byDay(day + settings[LAG]);
    }

    public int asked(int row, int person, int day) {
        if (isNoRow(row) || isOutside(person, PERSONS) || isNoDay(day)) {
            return BAD;
        }
        return row & entries[MATTERS].with(WHO, person) & entries[MATTERS].byDay(day);
    }

    public int open(int row, int day) {
        if (isNoRow(row) || isNoDay(day)) {
            return BAD;
        }
        return row & entries[MATTERS].byDay(day + settings[LAG]) & ~entries[MATTERS].byDay(day);
    }

    public int best(int person, int what) {
        if (isOutside(person, PERSONS) || isOutside(what, 2)) {
            return ANY_NUMBER + BAD;
        }
        int own = entries[MATTERS].with(WHO, person);
        int row = bestRow(rowsNow(), own);
        if (what == 1) {
            return row;
        }
        return row == NONE ? ANY_NUMBER + NOT : worthOf(row, own);
    }

    public int rest(int row, int person) {
        if (isNoRow(row) || isOutside(person, PERSONS)) {
            return BAD;
        }
        Rows now = rowsNow();
        if (now.brokenBy(row) != 0) {
            return NOT;
        }
        return hasBetter(now, row, entries[MATTERS].with(WHO, person)) ? 0 : 1;
    }

    // ---- replies, letters

    public int owed(int person) {
        if (person != NONE && isOutside(person, PERSONS)) {
            return BAD;
        }
        int theirs = person == NONE ? MOST_ROWS - 1 : entries[REPLIES].with(TO, person);
        return accountsNow().owedAmong(theirs);
    }

    public int lack() {
        return accountsNow().lacking();
    }

    public int unasked() {
        return accountsNow().withoutReply();
    }

    public int fines(int person) {
        if (isOutside(person, PERSONS)) {
            return BAD;
        }
        return accountsNow().owedAmong(entries[REPLIES].with(TO, person)) * settings[FINE];
    }

    public int seen(int matter, int is) {
        if (isNotSeeable(matter, is)) {
            return BAD;
        }
        if (seen.isFull()) {
            return FULL;
        }
        seen.add(matter, is);
        return seen.howMany();
    }

    public int forget() {
        int were = seen.howMany();
        seen.clearAll();
        return were;
    }

    public int refused(int what) {
        if (isOutside(what, 2)) {
            return BAD;
        }
        Rows now = rowsNow();
        int agreeing = 0;
        int inAllOfThem = entries[MATTERS].with(WORD, 0);
        for (int i = 0; i < now.howMany(); i++) {
            int row = now.nth(i);
            if (seen.agreesWith(row)) {
                agreeing++;
                inAllOfThem &= row;
            }
        }
        if (what == 0) {
            return agreeing;
        }
        return agreeing == 0 ? 0 : inAllOfThem;
    }

    public int lot(int seed, int n) {
        if (n < 0 || n > MOST_LOTS) {
            return BAD;
        }
        int matters = entries[MATTERS].howMany();
        lots.beginWith(seed);
        if (n == 0) {
            return lots.drawRow(matters);
        }
        int fitting = 0;
        for (int i = 0; i < n; i++) {
            if (rowsNow().brokenBy(lots.drawRow(matters)) == 0) {
                fitting++;
            }
        }
        return fitting;
    }

    // ---- sheets

    public int sheet(int s, int form, int n) {
        if (isOutside(s, SHEETS) || isOutside(form, FORMS) || n > MOST_ITEMS) {
            return BAD;
        }
        if (n < 0) {
            return finding(SIZE);
        }
        sheets[s].begin(form, n);
        return n;
    }

    public int lose(int s) {
        if (isOutside(s, SHEETS)) {
            return BAD;
        }
        if (sheets[s].isLost()) {
            return finding(NULL);
        }
        int had = sheets[s].length();
        sheets[s].becomeLost();
        return had;
    }

    public int put(int s, int form, int i, int v) {
        if (isOutside(s, SHEETS)) {
            return BAD;
        }
        int refusal = itemRefusal(sheets[s], form, i);
        if (refusal != WELL) {
            return refusal;
        }
        sheets[s].setItem(i, v);
        return 1;
    }

    public int get(int s, int form, int i) {
        if (isOutside(s, SHEETS) || itemRefusal(sheets[s], form, i) != WELL) {
            return LEAST_INT;
        }
        return sheets[s].item(i);
    }

    public int copy(int s, int i, int t, int j, int n) {
        if (isOutside(s, SHEETS) || isOutside(t, SHEETS)) {
            return BAD;
        }
        if (sheets[s].isLost() || sheets[t].isLost()) {
            return finding(NULL);
        }
        if (sheets[s].form() != sheets[t].form()) {
            return finding(STORE);
        }
        if (!sheets[s].hasRun(i, n) || !sheets[t].hasRun(j, n)) {
            return finding(INDEX);
        }
        sheets[t].takeRun(sheets[s], i, j, n);
        return 1;
    }

    public int write(int s) {
        if (isOutside(s, SHEETS)) {
            return BAD;
        }
        if (sheets[s].isLost()) {
            return finding(NULL);
        }
        int n = Math.min(sheets[s].length(), rowsNow().howMany());
        for (int i = 0; i < n; i++) {
            sheets[s].setItem(i, rowsNow().nth(i));
        }
        return n;
    }

    public int count(int what) {
        switch (what) {
            case 0:
            case 1:
            case 2:
                return entries[what].howMany();
            case 3:
            case 4:
            case 5:
                return texts[what - 3].length();
            case 6:
                return seen.howMany();
            case 7:
                return settings[LAG];
            case 8:
                return latestFinding;
            default:
                return BAD;
        }
    }

    public long digest() {
        long h = 17;
        for (int what = 0; what <= 7; what++) {
            h = mixed(h, count(what));
        }
        for (int text = 0; text < TEXTS; text++) {
            h = mixed(h, fault(text));
        }
        h = mixedWithMatters(h);
        h = mixedWithRows(h);
        h = mixedWithPersons(h);
        return mixedWithAll(h);
    }

    private static long mixed(long h, int v) {
        return 31 * h + v;
    }

    private long mixedWithMatters(long start) {
        long h = start;
        int n = entries[MATTERS].howMany();
        for (int m = 0; m < n; m++) {
            for (int what = 0; what < PARTS; what++) {
                h = mixed(h, matter(m, what));
            }
            h = mixed(h, hangs(m));
        }
        return h;
    }

    private long mixedWithRows(long start) {
        long h = start;
        h = mixed(h, rows(NONE));
        h = mixed(h, rows(0));
        h = mixed(h, rows(1));
        h = mixed(h, sure(0));
        h = mixed(h, sure(1));
        h = mixed(h, cannot(0));
        h = mixed(h, cannot(1));
        h = mixed(h, freed(0));
        h = mixed(h, freed(1));
        h = mixed(h, broken(0));
        h = mixed(h, broken(5));
        h = mixed(h, broken(MOST_ROWS - 1));
        h = mixed(h, nearest(5));
        h = mixed(h, steps(0, 3));
        h = mixed(h, returns(0, 0));
        h = mixed(h, returns(0, 1));
        return mixed(h, rings());
    }

    private long mixedWithPersons(long start) {
        long h = start;
        for (int person = 0; person < PERSONS; person++) {
            h = mixed(h, had(MOST_ROWS - 1, person, 20));
            h = mixed(h, asked(MOST_ROWS - 1, person, 20));
            h = mixed(h, best(person, 0));
            h = mixed(h, best(person, 1));
            h = mixed(h, owed(person));
            h = mixed(h, fines(person));
        }
        return h;
    }

    private long mixedWithAll(long start) {
        long h = start;
        h = mixed(h, open(MOST_ROWS - 1, 20));
        // Without a row it is row 0 that is asked for, and the refusal itself is mixed in.
        h = mixed(h, rest(Math.max(0, rows(0)), 0));
        h = mixed(h, owed(NONE));
        h = mixed(h, lack());
        h = mixed(h, unasked());
        h = mixed(h, refused(0));
        h = mixed(h, refused(1));
        h = mixed(h, lot(7, 0));
        return mixed(h, lot(7, 20));
    }

    // ---- what the calls share

    private static boolean isOutside(int number, int end) {
        return number < 0 || number >= end;
    }

    private static boolean isNoRow(int row) {
        return isOutside(row, MOST_ROWS);
    }

    private static boolean isNoDay(int day) {
        return day < 0 || day > MOST_DAY;
    }

    private static boolean isNotSeeable(int matter, int is) {
        return isOutside(matter, MOST_ENTRIES) || isOutside(is, 2);
    }

    private boolean isNoMatter(int matter) {
        return isOutside(matter, entries[MATTERS].howMany());
    }

    private int finding(int number) {
        latestFinding = number;
        return FINDING - number;
    }

    private int itemRefusal(Sheet sheet, int form, int i) {
        if (isOutside(form, FORMS)) {
            return BAD;
        }
        if (sheet.isLost()) {
            return finding(NULL);
        }
        if (sheet.form() != form) {
            return finding(CAST);
        }
        return isOutside(i, sheet.length()) ? finding(INDEX) : WELL;
    }

    // Rows and accounts are worked out only when they are asked for, and kept till something
    // changes: most calls type one byte.

    private void markOld() {
        rowsAreOld = true;
        accountsAreOld = true;
    }

    private Rows rowsNow() {
        if (rowsAreOld) {
            rows.workOut(entries[MATTERS], settings[LAG], settings[LET_OFF]);
            rowsAreOld = false;
        }
        return rows;
    }

    private Accounts accountsNow() {
        if (accountsAreOld) {
            accounts.workOut(entries[REPLIES], entries[LETTERS], settings[LAG], settings[GRACE]);
            accountsAreOld = false;
        }
        return accounts;
    }

    private int worthOf(int row, int own) {
        int counting = row & own;
        int sum = 0;
        for (int m = 0; m < MOST_ENTRIES; m++) {
            if ((counting >> m & 1) == 1) {
                sum += worths[m];
            }
        }
        return sum;
    }

    private int bestRow(Rows now, int own) {
        int best = NONE;
        int most = 0;
        for (int i = 0; i < now.howMany(); i++) {
            int worth = worthOf(now.nth(i), own);
            if (best == NONE || worth > most) {
                best = now.nth(i);
                most = worth;
            }
        }
        return best;
    }

    private boolean hasBetter(Rows now, int row, int own) {
        int present = worthOf(row & now.allBits(), own);
        for (int other = 0; other <= now.allBits(); other++) {
            boolean wouldFit = (now.brokenBy(other) & ~own) == 0;
            if (wouldFit && worthOf(other, own) > present) {
                return true;
            }
        }
        return false;
    }

    /** Bytes, one typed behind the other, up to a limit. */
    private static final class Text {
        private final byte[] bytes;
        private int size;

        Text(int most) {
            bytes = new byte[Math.max(0, most)];
        }

        int length() {
            return size;
        }

        boolean isFull() {
            return size >= bytes.length;
        }

        void append(int b) {
            if (size >= 0 && size < bytes.length) {
                bytes[size] = (byte) b;
                size++;
            }
        }

        void dropLast() {
            if (size > 0) {
                size--;
            }
        }

        void clearAll() {
            size = 0;
        }

        /** The byte at a place; NONE behind the end, which no sign of a text is. */
        int at(int place) {
            return place >= 0 && place < size && place < bytes.length ? bytes[place] & 255 : NONE;
        }
    }

    /** What a text says, byte by byte: its entries, each with the parts of a form, or a fault. */
    private static final class Entries {
        private final int[] form;
        private final int[] parts = new int[MOST_ENTRIES * PARTS];
        private int bytes;
        private int entry;
        private int next;
        private int who;
        private int size;
        private int stop = NONE;

        Entries(int[] form) {
            this.form = form;
        }

        int howMany() {
            return size;
        }

        int faultPlace() {
            if (stop != NONE) {
                return stop;
            }
            return bytes == 0 || next == form.length ? NONE : bytes;
        }

        int part(int i, int what) {
            boolean isThere = i >= 0 && i < size && i < MOST_ENTRIES && what >= 0 && what < PARTS;
            return isThere ? parts[i * PARTS + what] : NONE;
        }

        /** The entries of which a part is so, as bits. */
        int with(int what, int v) {
            int bits = 0;
            for (int i = 0; i < size && i < MOST_ENTRIES; i++) {
                if (what >= 0 && what < PARTS && parts[i * PARTS + what] == v) {
                    bits |= 1 << i;
                }
            }
            return bits;
        }

        /** The entries with that day or an earlier one, as bits. */
        int byDay(int day) {
            int bits = 0;
            for (int i = 0; i < size && i < MOST_ENTRIES; i++) {
                if (parts[i * PARTS + DAY] <= day) {
                    bits |= 1 << i;
                }
            }
            return bits;
        }

        void begin() {
            bytes = 0;
            entry = 0;
            next = 0;
            size = 0;
            stop = NONE;
        }

        void readAgain(Text text) {
            begin();
            for (int i = 0; i < text.length(); i++) {
                take(text.at(i));
            }
        }

        /** One byte more; behind the first with which it cannot go on none matters. */
        void take(int b) {
            if (stop == NONE && !goesOnWith(b)) {
                stop = bytes;
            }
            bytes++;
            boolean isWell = stop == NONE && next == form.length;
            size = isWell ? entry + 1 : 0;
        }

        private boolean goesOnWith(int b) {
            if (next >= form.length) {
                entry++;
                next = 0;
                return b == ';';
            }
            if (next < 0 || entry < 0 || entry >= MOST_ENTRIES) {
                return false;
            }
            int what = form[next];
            int v = valueOf(what, b);
            if (v == NONE) {
                return false;
            }
            keep(what, v);
            next++;
            if (what == WHEN && v < IF_YES) {
                keep(BY, NONE);
                next = form.length;
            }
            return true;
        }

        private int valueOf(int what, int b) {
            switch (what) {
                case WHO:
                    return figure(b, PERSONS - 1);
                case TO:
                    return b - '0' == who ? NONE : figure(b, PERSONS - 1);
                case WORD:
                    return "ny".indexOf((char) b);
                case WHEN:
                    return "aeyns".indexOf((char) b);
                default:
                    return figure(b, 9);
            }
        }

        private void keep(int what, int v) {
            int place = entry * PARTS + what;
            if (place < 0 || place >= parts.length) {
                return;
            }
            boolean isSecondFigure = what == DAY && next > 0 && next <= form.length && form[next - 1] == DAY;
            parts[place] = isSecondFigure ? 10 * parts[place] + v : v;
            who = what == WHO ? v : who;
        }

        private static int figure(int b, int most) {
            int v = b - '0';
            return v < 0 || v > most ? NONE : v;
        }
    }

    /** Of each row of the matters what is not as told in it, and so which rows fit themselves. */
    private static final class Rows {
        private final int[] broken = new int[MOST_ROWS];
        private final int[] fitting = new int[MOST_ROWS];
        private final int[] marks = new int[MOST_ROWS];
        private final int[] hangsOn = new int[MOST_ENTRIES];
        private final int[] turned = new int[MOST_ENTRIES];
        private int size;
        private int all;
        private int fits;

        void workOut(Entries matters, int lag, int letOff) {
            size = Math.min(matters.howMany(), MOST_ENTRIES);
            all = (1 << size) - 1;
            findTies(matters, lag);
            broken[0] = writtenUnanswered(matters);
            fillShould();
            fits = 0;
            for (int row = 0; row <= all; row++) {
                broken[row] = (broken[row] ^ row) & all & ~letOff;
                if (broken[row] == 0 && fits < MOST_ROWS) {
                    fitting[fits] = row;
                    fits++;
                }
            }
        }

        private void findTies(Entries matters, int lag) {
            Arrays.fill(turned, 0);
            for (int m = 0; m < size; m++) {
                int by = matters.part(m, BY);
                boolean isThere = by >= 0 && by < size;
                boolean isKnown = isThere && matters.part(by, DAY) - lag <= matters.part(m, DAY);
                hangsOn[m] = isKnown ? by : NONE;
                if (isKnown && isTurnedBy(matters.part(m, WHEN), matters.part(by, WORD))) {
                    turned[by] |= 1 << m;
                }
            }
        }

        private static boolean isTurnedBy(int when, int word) {
            return when == IF_SILENCE || when == IF_YES && word == 1 || when == IF_NO && word == 0;
        }

        /** What should be written if no reply comes at all. */
        private static int writtenUnanswered(Entries matters) {
            return matters.with(WHEN, ALWAYS) | matters.with(WHEN, IF_SILENCE);
        }

        // A matter goes by one other at most, so each reply more turns the same ones over,
        // whatever else is in the row.
        private void fillShould() {
            for (int m = 0; m < size; m++) {
                int bit = 1 << m;
                for (int row = bit; row < 2 * bit && row < MOST_ROWS; row++) {
                    broken[row] = broken[row - bit] ^ turned[m];
                }
            }
        }

        int allBits() {
            return all;
        }

        int howMany() {
            return fits;
        }

        int nth(int i) {
            return i >= 0 && i < fits && i < MOST_ROWS ? fitting[i] : NONE;
        }

        int inAll() {
            int bits = all;
            for (int i = 0; i < fits; i++) {
                bits &= fitting[i];
            }
            return bits;
        }

        int inNone() {
            int bits = all;
            for (int i = 0; i < fits; i++) {
                bits &= ~fitting[i];
            }
            return bits;
        }

        /** The fewest matters of which each row breaks one. */
        int fewestClashing() {
            if (fits > 0) {
                return NONE;
            }
            markBreakable();
            int best = NONE;
            for (int set = 0; set <= all; set++) {
                boolean clashes = marks[all & ~set] == 0;
                if (clashes && (best == NONE || Integer.bitCount(set) < Integer.bitCount(best))) {
                    best = set;
                }
            }
            return best;
        }

        /** A set is marked, if there is a row that breaks nothing outside it. */
        private void markBreakable() {
            fillMarks(0);
            for (int row = 0; row <= all; row++) {
                marks[broken[row] & all] = 1;
            }
            for (int m = 0; m < size; m++) {
                int bit = 1 << m;
                for (int set = 0; set <= all; set++) {
                    if ((set & bit) != 0 && marks[set & ~bit] == 1) {
                        marks[set] = 1;
                    }
                }
            }
        }

        /** The fewest that any row breaks: those let off, too, it fits itself. */
        int fewestBroken() {
            int best = broken[0];
            for (int row = 1; row <= all; row++) {
                int fewer = Integer.bitCount(broken[row]) - Integer.bitCount(best);
                if (fewer < 0 || fewer == 0 && broken[row] < best) {
                    best = broken[row];
                }
            }
            return best;
        }

        int brokenBy(int row) {
            return broken[row & all];
        }

        int closestTo(int row) {
            int best = NONE;
            int least = MOST_ENTRIES + 1;
            for (int i = 0; i < fits; i++) {
                int unlike = Integer.bitCount(fitting[i] ^ (row & all));
                if (unlike < least) {
                    best = fitting[i];
                    least = unlike;
                }
            }
            return best;
        }

        int behindSteps(int row, int k) {
            int now = row & all;
            for (int i = 0; i < k; i++) {
                now ^= broken[now];
            }
            return now;
        }

        int stepsToReturn(int row, boolean ringAlone) {
            fillMarks(NONE);
            int now = row & all;
            int step = 0;
            while (step <= MOST_ROWS && marks[now] == NONE) {
                marks[now] = step;
                now ^= broken[now];
                step++;
            }
            return ringAlone ? step - marks[now] : step;
        }

        private void fillMarks(int v) {
            for (int row = 0; row <= all; row++) {
                marks[row] = v;
            }
        }

        int hangingOn(int matter) {
            int bits = 0;
            int next = matter;
            for (int i = 0; i < size && next >= 0 && next < size; i++) {
                next = hangsOn[next];
                if (next >= 0) {
                    bits |= 1 << next;
                }
            }
            return bits;
        }

        int inRings() {
            int bits = 0;
            for (int m = 0; m < size; m++) {
                bits |= hangingOn(m) & (1 << m);
            }
            return bits;
        }
    }

    /** Replies and letters, laid to each other. */
    private static final class Accounts {
        private final int[] canBe = new int[MOST_ENTRIES];
        private final int[] theirs = new int[MOST_ROWS];
        private int lack;
        private int all;
        private int unasked;

        void workOut(Entries replies, Entries letters, int lag, int grace) {
            int size = Math.min(replies.howMany(), MOST_ENTRIES);
            all = (1 << size) - 1;
            unasked = (1 << letters.howMany()) - 1;
            for (int i = 0; i < size; i++) {
                canBe[i] = lettersFor(replies, i, letters, lag, grace);
                unasked &= ~canBe[i];
            }
            fillTheirs(size);
            lack = 0;
            for (int set = 1; set <= all; set++) {
                int more = excess(set) - excess(lack);
                if (more > 0 || more == 0 && Integer.bitCount(set) < Integer.bitCount(lack)) {
                    lack = set;
                }
            }
        }

        private static int lettersFor(Entries replies, int i, Entries letters, int lag, int grace) {
            int earliest = replies.part(i, DAY) + lag;
            return letters.with(WHO, replies.part(i, TO)) & letters.with(TO, replies.part(i, WHO))
                    & letters.byDay(earliest + grace) & ~letters.byDay(earliest - 1);
        }

        private void fillTheirs(int size) {
            theirs[0] = 0;
            for (int i = 0; i < size; i++) {
                int bit = 1 << i;
                for (int set = bit; set < 2 * bit && set < MOST_ROWS; set++) {
                    theirs[set] = theirs[set - bit] | canBe[i];
                }
            }
        }

        /** How many more these replies are than the letters that can be theirs. */
        private int excess(int set) {
            return Integer.bitCount(set) - Integer.bitCount(theirs[set & all]);
        }

        int lacking() {
            return lack;
        }

        int withoutReply() {
            return unasked;
        }

        // A letter can only be that of replies to the one who wrote it, so the set that lacks
        // most is, for each person apart, the one that lacks most among the replies to it.
        int owedAmong(int replies) {
            return excess(lack & replies);
        }
    }

    /** What was seen: the matters that were written, and those that were not. */
    private static final class Seen {
        private int size;
        private int written;
        private int unwritten;

        int howMany() {
            return size;
        }

        boolean isFull() {
            return size >= MOST_SEEN;
        }

        void add(int matter, int is) {
            if (is == 1) {
                written |= 1 << matter;
            } else {
                unwritten |= 1 << matter;
            }
            size++;
        }

        void clearAll() {
            size = 0;
            written = 0;
            unwritten = 0;
        }

        boolean agreesWith(int row) {
            return (row & written) == written && (row & unwritten) == 0;
        }
    }

    /** Lots by a seed. */
    private static final class Lots {
        private int state;

        void beginWith(int seed) {
            state = seed;
        }

        int drawRow(int matters) {
            int row = 0;
            for (int m = 0; m < matters; m++) {
                row |= draw(2) << m;
            }
            return row;
        }

        private int draw(int m) {
            state = 1103515245 * state + 12345;
            return m > 0 ? (state >>> 16) % m : 0;
        }
    }

    /** A sheet: lost, or a row of items of a form. */
    private static final class Sheet {
        private final int[] items = new int[MOST_ITEMS];
        private int form = NONE;
        private int size;

        boolean isLost() {
            return form == NONE;
        }

        int form() {
            return form;
        }

        int length() {
            return size;
        }

        void begin(int newForm, int n) {
            form = newForm;
            size = Math.max(0, Math.min(n, MOST_ITEMS));
            Arrays.fill(items, 0);
        }

        void becomeLost() {
            form = NONE;
            size = 0;
        }

        int item(int i) {
            return i >= 0 && i < size && i < MOST_ITEMS ? items[i] : 0;
        }

        void setItem(int i, int v) {
            if (i >= 0 && i < size && i < MOST_ITEMS) {
                items[i] = narrowed(v);
            }
        }

        private int narrowed(int v) {
            switch (form) {
                case 0:
                    return (byte) v;
                case 1:
                    return (short) v;
                default:
                    return v;
            }
        }

        boolean hasRun(int from, int n) {
            return from >= 0 && n >= 0 && from <= size && n <= size - from;
        }

        void takeRun(Sheet source, int from, int to, int n) {
            if (source != null && source.hasRun(from, n) && hasRun(to, n)) {
                System.arraycopy(source.items, from, items, to, n);
            }
        }
    }
}
