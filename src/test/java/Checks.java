/** Counts answers that are not as due; a test's main method ends with end(). */
final class Checks {
    private int asked;
    private int wrong;
    private String sentence = "";

    /** The sentence of the document that the next answers are held against. */
    void of(String words) {
        sentence = "[" + words + "] ";
    }

    void due(String call, long got, long want) {
        asked++;
        if (got != want) {
            wrong++;
            System.out.println(sentence + call + " answered " + got + ", due is " + want);
        }
    }

    void isTrue(String what, boolean holds) {
        asked++;
        if (!holds) {
            wrong++;
            System.out.println(sentence + "not so: " + what);
        }
    }

    void end() {
        System.out.println(asked + " answers, " + wrong + " of them not as due");
        if (wrong != 0) {
            System.exit(1);
        }
    }

    /** A text becomes these signs. */
    static void say(AnswersFirst x, int text, String signs) {
        x.wipe(text);
        for (int i = 0; i < signs.length(); i++) {
            x.type(text, signs.charAt(i));
        }
    }

    static AnswersFirst withMatters(String matters) {
        AnswersFirst x = new AnswersFirst();
        say(x, 0, matters);
        return x;
    }

    static AnswersFirst withReplies(String replies, String letters) {
        AnswersFirst x = new AnswersFirst();
        say(x, 1, replies);
        say(x, 2, letters);
        return x;
    }

    /** A sheet becomes a row of a form with these items. */
    static void fill(AnswersFirst x, int s, int form, int... items) {
        x.sheet(s, form, items.length);
        for (int i = 0; i < items.length; i++) {
            x.put(s, form, i, items[i]);
        }
    }

    /** The same entry so many times, with ; between them. */
    static String times(String entry, int n) {
        StringBuilder all = new StringBuilder();
        for (int i = 0; i < n; i++) {
            if (i > 0) {
                all.append(';');
            }
            all.append(entry);
        }
        return all.toString();
    }
}
