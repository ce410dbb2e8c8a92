/** Part 3 of the document and promises 20 to 24, a test for each sentence that names a boundary case. */
public final class DayEdgesTest {
    private static final int NONE = -1, BAD = -2, NOT = -3;
    private static final String AGAINST_ITSELF = "0110ys0";
    private static final Checks C = new Checks();

    public static void main(String[] args) {
        hadByADay();
        hadByAPerson();
        hadInARow();
        askedByADay();
        openOfALaterDay();
        openOfAll();
        bestWithoutRows();
        bestOfLikeOnes();
        bestAsAnyNumber();
        worthIfWritten();
        restWithoutMatters();
        restLetOffToo();
        restWorthMore();
        restDoesNotFit();
        C.end();
    }

    private static String twoFigures(int n) {
        return "" + n / 10 + n % 10;
    }

    // ---- HAD, ASKED, OPEN

    private static void hadByADay() {
        C.of("HAD, in a ROW (any bits): replies that a PERSON has by a DAY (0 to 99)");
        for (int lag : new int[] {1, 9, 20}) {
            for (int day : new int[] {0, 1, lag - 1, lag, lag + 1, 50, 98, 99}) {
                AnswersFirst x = Checks.withMatters("01" + twoFigures(day) + "ya");
                x.set(0, lag);
                int comes = day - lag;
                String what = "DAY " + day + ", LAG " + lag + ", had by ";
                if (comes > 0) {
                    C.due(what + "the day ahead", x.had(1, 0, comes - 1), 0);
                }
                C.due(what + "the day it comes", x.had(1, 0, Math.max(0, comes)), 1);
                C.due(what + "99", x.had(1, 0, 99), 1);
            }
        }
        AnswersFirst x = Checks.withMatters("0199ya");
        x.set(0, 1);
        C.due("by day 97", x.had(1, 0, 97), 0);
        C.due("by day 98", x.had(1, 0, 98), 1);
        C.due("by day 100", x.had(1, 0, 100), BAD);
        C.due("by day -1", x.had(1, 0, -1), BAD);
    }

    private static void hadByAPerson() {
        C.of("replies that a PERSON has ..; ASKED: letters of a PERSON");
        AnswersFirst x = Checks.withMatters("0110ya;1010na;2310ye;3210ne;4510ya;5410ya;0510ya");
        int[] due = {65, 2, 4, 8, 16, 32};
        for (int person = 0; person < 6; person++) {
            C.due("had by " + person, x.had(1023, person, 1), due[person]);
            C.due("asked by " + person, x.asked(1023, person, 10), due[person]);
        }
        x = Checks.withMatters(Checks.times("5410ya", 10));
        C.due("had, all ten", x.had(1023, 5, 1), 1023);
        C.due("had, none to whom it goes", x.had(1023, 4, 99), 0);
        C.due("asked, all ten", x.asked(1023, 5, 10), 1023);
        C.due("asked, none to whom it goes", x.asked(1023, 4, 99), 0);
    }

    private static void hadInARow() {
        C.of("in a ROW (any bits)");
        // None of these rows fits itself but 1.
        AnswersFirst x = Checks.withMatters("0110ya;0110ne");
        for (int row = 0; row < 4; row++) {
            C.due("had in " + row, x.had(row, 0, 1), row);
            C.due("asked in " + row, x.asked(row, 0, 10), row);
            C.due("open in " + row, x.open(row, 1), row);
        }
        x = new AnswersFirst();
        C.due("no matters, had", x.had(1023, 0, 99), 0);
        C.due("no matters, asked", x.asked(1023, 0, 99), 0);
        C.due("no matters, open", x.open(1023, 99), 0);
    }

    private static void askedByADay() {
        C.of("ASKED: letters of a PERSON WRITTEN by a DAY");
        for (int day : new int[] {0, 1, 9, 50, 99}) {
            AnswersFirst x = Checks.withMatters("01" + twoFigures(day) + "ya");
            if (day > 0) {
                C.due("the day ahead of " + day, x.asked(1, 0, day - 1), 0);
            }
            C.due("on day " + day, x.asked(1, 0, day), 1);
            C.due("by day 99", x.asked(1, 0, 99), 1);
            x.set(0, 20);
            C.due("whatever the LAG", x.asked(1, 0, Math.max(0, day - 1)), day == 0 ? 1 : 0);
        }
        AnswersFirst x = Checks.withMatters("0199ya");
        C.due("by day 100", x.asked(1, 0, 100), BAD);
        C.due("by day -1", x.asked(1, 0, -1), BAD);
    }

    private static void openOfALaterDay() {
        C.of("OPEN: replies had by a DAY to letters of a later DAY");
        for (int lag : new int[] {1, 9, 20}) {
            AnswersFirst x = Checks.withMatters("0150ya");
            x.set(0, lag);
            C.due("not had yet", x.open(1, 50 - lag - 1), 0);
            C.due("had", x.open(1, 50 - lag), 1);
            C.due("the day ahead", x.open(1, 49), 1);
            C.due("on its DAY", x.open(1, 50), 0);
            C.due("behind it", x.open(1, 51), 0);
        }
        AnswersFirst x = Checks.withMatters("0100ya;0101ya;0199ya");
        C.due("on day 0", x.open(7, 0), 2);
        C.due("on day 1", x.open(7, 1), 0);
        C.due("on day 89", x.open(7, 89), 0);
        C.due("on day 90", x.open(7, 90), 4);
        C.due("on day 98", x.open(7, 98), 4);
        C.due("on day 99", x.open(7, 99), 0);
        C.due("on day 100", x.open(7, 100), BAD);
        C.due("on day -1", x.open(7, -1), BAD);
    }

    private static void openOfAll() {
        C.of("OPEN: .., of all, likewise");
        AnswersFirst x = Checks.withMatters("0110ya;1010na;2310ye;3210ne;4510ya;5410ya");
        C.due("of all persons", x.open(1023, 5), 63);
        C.due("of those in the row", x.open(33, 5), 33);
        C.due("of none", x.open(0, 5), 0);
    }

    // ---- BEST

    private static void bestIs(AnswersFirst x, int person, int worth, int row) {
        C.due("best(" + person + ", 0)", x.best(person, 0), worth);
        C.due("best(" + person + ", 1)", x.best(person, 1), row);
    }

    private static void bestWithoutRows() {
        C.of("the worth (what = 0, as any number; NOT, there is no ROW: -1003), the ROW (1; NONE)");
        AnswersFirst x = Checks.withMatters(AGAINST_ITSELF + ";1010ya");
        for (int person = 0; person < 6; person++) {
            bestIs(x, person, -1003, NONE);
        }
        x.set(3, 1);
        bestIs(x, 0, 1, 3);
        bestIs(x, 1, 1, 2);
        for (int person = 0; person < 6; person++) {
            bestIs(new AnswersFirst(), person, 0, 0);
        }
    }

    private static void bestOfLikeOnes() {
        C.of("is worth most together, of like ones the least");
        AnswersFirst x = Checks.withMatters("0110ys1;1010ys0");
        bestIs(x, 0, 1, 1);
        bestIs(x, 1, 1, 2);
        bestIs(x, 2, 0, 1);
        x.worth(0, 0);
        bestIs(x, 0, 0, 1);
        x.worth(1, -1);
        bestIs(x, 1, 0, 1);
        x.worth(0, -1);
        bestIs(x, 0, 0, 2);
        // The most by two that are worth less each than the one.
        x = Checks.withMatters("0110yy0;0110yy1;0110ys1");
        x.worth(0, 0);
        x.worth(1, 3);
        x.worth(2, 3);
        bestIs(x, 0, 3, 2);
        x.worth(0, 1);
        bestIs(x, 0, 4, 3);
        x.worth(2, 4);
        bestIs(x, 0, 5, 5);
    }

    private static void bestAsAnyNumber() {
        C.of("as any number");
        AnswersFirst x = Checks.withMatters(Checks.times("0110ya", 10));
        bestIs(x, 0, 10, 1023);
        for (int m = 0; m < 10; m++) {
            x.worth(m, 9);
        }
        bestIs(x, 0, 90, 1023);
        for (int m = 0; m < 10; m++) {
            x.worth(m, -9);
        }
        bestIs(x, 0, -90, 1023);
        x = Checks.withMatters("0110ya");
        for (int worth : new int[] {-1, -2, -3, -4, -9}) {
            x.worth(0, worth);
            bestIs(x, 0, worth, 1);
        }
    }

    private static void worthIfWritten() {
        C.of("WORTH of a MATTER to WHO writes (-9 to 9; 1 at first), if it is WRITTEN");
        AnswersFirst x = Checks.withMatters("0110ya;0110ye;1010ya");
        x.worth(1, 9);
        x.worth(2, 9);
        x.worth(9, 9);
        bestIs(x, 0, 1, 5);
        bestIs(x, 1, 9, 5);
        bestIs(x, 2, 0, 5);
    }

    // ---- REST

    private static void restWithoutMatters() {
        C.of("no ROW would be worth more to it: 1, 0");
        for (int person = 0; person < 6; person++) {
            C.due("no matters", new AnswersFirst().rest(0, person), 1);
            C.due("no matters, bits aside", new AnswersFirst().rest(1023, person), 1);
            C.due("a fault", Checks.withMatters("0110ys0;").rest(0, person), 1);
        }
        AnswersFirst x = Checks.withMatters("0110ye");
        C.due("one of its own, rather written", x.rest(0, 0), 0);
        for (int person = 1; person < 6; person++) {
            C.due("none of its own", x.rest(0, person), 1);
        }
    }

    private static void restLetOffToo() {
        C.of("were that PERSON's MATTERS LET OFF, too");
        AnswersFirst x = Checks.withMatters("0110ye;1010yy0");
        C.due("never, but it would be worth more", x.rest(0, 0), 0);
        C.due("by a yes that does not come, but it would be worth more", x.rest(0, 1), 0);
        x.worth(1, -1);
        C.due("worth less than nothing", x.rest(0, 1), 1);
        x = Checks.withMatters("0110ye;1010ye");
        x.set(3, 2);
        C.due("let off ahead, and not written", x.rest(0, 1), 0);
        C.due("let off ahead, and written", x.rest(2, 1), 1);
        C.due("the other one is not let off", x.rest(2, 0), 0);
        // Each of its own may be written or not by itself, and those of others go with them, at no worth to it.
        x = Checks.withMatters("0110ye;1010yy0;0210yy1");
        x.worth(0, 3);
        x.worth(1, -9);
        x.worth(2, -9);
        C.due("0 and 1 without 2", x.rest(0, 0), 0);
        x.worth(0, 0);
        C.due("none of its own is worth more", x.rest(0, 0), 1);
        // It is let off only as long as it is asked.
        C.due("the rows are as they were", x.rows(NONE), 1);
    }

    private static void restWorthMore() {
        C.of("no ROW would be worth more to it");
        AnswersFirst x = Checks.withMatters("0110ya");
        for (int worth = -9; worth <= 9; worth++) {
            x.worth(0, worth);
            C.due("written, worth " + worth, x.rest(1, 0), worth < 0 ? 0 : 1);
        }
        x = Checks.withMatters("0110ye");
        for (int worth = -9; worth <= 9; worth++) {
            x.worth(0, worth);
            C.due("not written, worth " + worth, x.rest(0, 0), worth > 0 ? 0 : 1);
        }
    }

    private static void restDoesNotFit() {
        C.of("NOT: it does not FIT ITSELF");
        AnswersFirst x = Checks.withMatters("0110ys1;1010ys0");
        for (int row = 0; row < 4; row++) {
            boolean fits = row == 1 || row == 2;
            C.isTrue("rest(" + row + ")", fits == x.rest(row, 2) >= 0);
            C.due("rest(" + row + ")", x.rest(row, 2), fits ? 1 : NOT);
        }
        Checks.say(x, 0, AGAINST_ITSELF);
        C.due("no row fits", x.rest(0, 0), NOT);
        C.due("no row fits", x.rest(1, 0), NOT);
        x.set(3, 1);
        C.due("let off", x.rest(0, 0), 0);
        C.due("let off", x.rest(1, 0), 1);
    }
}
