/** Counts answers that are not as due; a test's main method ends with end(). */
final class Checks {
    private int asked;
    private int wrong;

    void due(String call, long got, long want) {
        asked++;
        if (got != want) {
            wrong++;
            System.out.println(call + " answered " + got + ", due is " + want);
        }
    }

    void isTrue(String what, boolean holds) {
        asked++;
        if (!holds) {
            wrong++;
            System.out.println("not so: " + what);
        }
    }

    void end() {
        System.out.println(asked + " answers, " + wrong + " of them not as due");
        if (wrong != 0) {
            System.exit(1);
        }
    }

    /** A text becomes these signs. */
    static void say(AnswersFirst x, int text, String signs) {
        x.wipe(text);
        for (int i = 0; i < signs.length(); i++) {
            x.type(text, signs.charAt(i));
        }
    }

    static AnswersFirst withMatters(String matters) {
        AnswersFirst x = new AnswersFirst();
        say(x, 0, matters);
        return x;
    }

    /** The same entry so many times, with ; between them. */
    static String times(String entry, int n) {
        StringBuilder all = new StringBuilder();
        for (int i = 0; i < n; i++) {
            if (i > 0) {
                all.append(';');
            }
            all.append(entry);
        }
        return all.toString();
    }
}
