/** Promises 20 to 24: days, worth. */
public final class DaysTest {
    private static final Checks C = new Checks();

    public static void main(String[] args) {
        hadAndAsked();
        open();
        best();
        rest();
        C.end();
    }

    private static void hadAndAsked() {
        AnswersFirst x = Checks.withMatters("0110ya;0103na;1099ye;0520yy0");
        // Replies to 0 come on day 1, to 1 ahead of day 0, to 3 on day 11.
        C.due("had, ahead of day 0", x.had(15, 0, 0), 2);
        C.due("had, on the day", x.had(15, 0, 1), 3);
        C.due("had, a day ahead", x.had(15, 0, 10), 3);
        C.due("had, all", x.had(15, 0, 11), 11);
        C.due("had, not in the row", x.had(9, 0, 11), 9);
        C.due("had, others aside", x.had(1023, 0, 99), 11);
        C.due("had, of another", x.had(1023, 1, 90), 4);
        C.due("had, of another, too early", x.had(1023, 1, 89), 0);
        C.due("had, by TO is none", x.had(1023, 5, 99), 0);
        C.due("asked, too early", x.asked(15, 0, 2), 0);
        C.due("asked, on the day", x.asked(15, 0, 3), 2);
        C.due("asked, all", x.asked(1023, 0, 20), 11);
        C.due("asked, not in the row", x.asked(8, 0, 20), 8);
        C.due("asked, of another", x.asked(15, 1, 99), 4);
        x.set(0, 1);
        C.due("had, LAG 1", x.had(15, 0, 2), 2);
        C.due("had, LAG 1", x.had(15, 0, 1), 0);
        for (int bad : new int[] {-1, 6}) {
            C.due("had, no person", x.had(0, bad, 0), -2);
            C.due("asked, no person", x.asked(0, bad, 0), -2);
        }
        for (int bad : new int[] {-1, 1024}) {
            C.due("had, no row", x.had(bad, 0, 0), -2);
            C.due("asked, no row", x.asked(bad, 0, 0), -2);
            C.due("open, no row", x.open(bad, 0), -2);
        }
        for (int bad : new int[] {-1, 100, Integer.MAX_VALUE}) {
            C.due("had, no day", x.had(0, 0, bad), -2);
            C.due("asked, no day", x.asked(0, 0, bad), -2);
            C.due("open, no day", x.open(0, bad), -2);
        }
    }

    private static void open() {
        AnswersFirst x = Checks.withMatters("0110ya;0103na;1012ye;0520yy0");
        int[] days = {0, 1, 3, 9, 10, 11, 12, 19, 20, 99};
        int[] due = {2, 3, 5, 5, 4, 12, 8, 8, 0, 0};
        for (int i = 0; i < days.length; i++) {
            C.due("open on " + days[i], x.open(1023, days[i]), due[i]);
        }
        C.due("open, in a row", x.open(1, 3), 1);
        C.due("open, not in the row", x.open(2, 3), 0);
    }

    private static void best() {
        AnswersFirst x = Checks.withMatters("0110ys1;1010ys0;2010ya");
        // Rows: 5 and 6.
        bestIs(x, 0, 1, 5);
        bestIs(x, 1, 1, 6);
        bestIs(x, 2, 1, 5);
        bestIs(x, 3, 0, 5);
        x.worth(0, -2);
        bestIs(x, 0, 0, 6);
        x.worth(2, -9);
        bestIs(x, 2, -9, 5);
        x.worth(0, 0);
        bestIs(x, 0, 0, 5);
        Checks.say(x, 0, "0110ys0");
        C.due("best(0, 0), no row", x.best(0, 0), -1003);
        C.due("best(0, 1), no row", x.best(0, 1), -1);
        Checks.say(x, 0, "0110ya;0210ya;0310ya");
        x.worth(0, 9);
        x.worth(1, 9);
        x.worth(2, -4);
        bestIs(x, 0, 14, 7);
        for (int bad : new int[] {-1, 6}) {
            C.due("best, no person", x.best(bad, 0), -1002);
            C.due("best, no person", x.best(bad, 1), -1002);
        }
        C.due("best(0, -1)", x.best(0, -1), -1002);
        C.due("best(0, 2)", x.best(0, 2), -1002);
    }

    private static void bestIs(AnswersFirst x, int person, int worth, int row) {
        C.due("best(" + person + ", 0)", x.best(person, 0), worth);
        C.due("best(" + person + ", 1)", x.best(person, 1), row);
    }

    private static void rest() {
        AnswersFirst x = Checks.withMatters("0110ye;1010yy0");
        C.due("rest(0, 0): it would write 0", x.rest(0, 0), 0);
        C.due("rest(0, 1): it would write 1", x.rest(0, 1), 0);
        C.due("rest(0, 2)", x.rest(0, 2), 1);
        x.worth(0, -1);
        C.due("rest(0, 0): worth less", x.rest(0, 0), 1);
        x.worth(0, 0);
        C.due("rest(0, 0): worth as much", x.rest(0, 0), 1);
        C.due("rest(1020, 0): others aside", x.rest(1020, 0), 1);
        C.due("rest(1, 0): it does not fit", x.rest(1, 0), -3);
        C.due("rest(1024, 0)", x.rest(1024, 0), -2);
        C.due("rest(-1, 0)", x.rest(-1, 0), -2);
        C.due("rest(1, 6): bad ahead of not", x.rest(1, 6), -2);
        C.due("rest(1, -1): bad ahead of not", x.rest(1, -1), -2);
        // Two of person 0, never written: each is reason enough to write it, if it is worth something.
        Checks.say(x, 0, "0110ye;1010yn0;2010ys1;0310ye");
        x.worth(0, -5);
        x.worth(3, -5);
        C.due("the row", x.rows(0), 4);
        C.due("rest(4, 0), both worth less", x.rest(4, 0), 1);
        x.worth(3, 1);
        C.due("rest(4, 0), one of them worth more", x.rest(4, 0), 0);
        x.set(3, 8);
        C.due("rest(12, 0), that one let off and written", x.rest(12, 0), 1);
        C.due("rest(4, 0), let off and not written", x.rest(4, 0), 0);
        // One that is always written, and worth less than nothing.
        Checks.say(x, 0, "0110ya;1010ys0");
        C.due("rest(1, 0), rather not", x.rest(1, 0), 0);
        C.due("rest(1, 1), rather written", x.rest(1, 1), 0);
        Checks.say(x, 0, "0110ya");
        C.due("rest(1, 0), rather none at all", x.rest(1, 0), 0);
        Checks.say(x, 0, "0110ys0");
        C.due("rest, no row at all", x.rest(0, 0), -3);
    }
}
