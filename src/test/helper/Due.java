import java.util.function.IntUnaryOperator;

/** The answers that are due, sentence by sentence of the document. */
final class Due {
    private static final int NONE = -1;
    private static final int BEHIND = 3;
    private static final int[] FAR = {
        Integer.MIN_VALUE, Integer.MIN_VALUE + 1, -65, -33, 65, 1 << 16, Integer.MAX_VALUE - 1,
        Integer.MAX_VALUE,
    };

    private String sentence = "";
    private int sentences = 0;
    private int asked = 0;
    private int askedAhead = 0;
    private int wrong = 0;

    /** What is asked from here on is due by these words of the document. */
    void by(String words) {
        checkThatSomethingWasAsked();
        sentence = words;
        sentences++;
        askedAhead = asked;
    }

    private void checkThatSomethingWasAsked() {
        if (sentences > 0 && asked == askedAhead) {
            wrong++;
            System.out.println("nothing was asked by: " + sentence);
        }
    }

    void is(String call, int got, int want) {
        asked++;
        if (got != want) {
            wrong++;
            System.out.println("\"" + sentence + "\": " + call + " answered " + got + ", due is " + want);
        }
    }

    void is(String call, boolean got, boolean want) {
        is(call, got ? 1 : 0, want ? 1 : 0);
    }

    /** Each what from 0 on has its answer; another what, just outside or far off, has the other. */
    void whats(String call, int other, IntUnaryOperator ask, int... want) {
        for (int what = 0; what < want.length; what++) {
            is(call + " what " + what, ask.applyAsInt(what), want[what]);
        }
        is(call + " what -1", ask.applyAsInt(-1), other);
        for (int what = want.length; what < want.length + BEHIND; what++) {
            is(call + " what " + what, ask.applyAsInt(what), other);
        }
        far(call + " what", other, ask);
    }

    /** The 0-th and so on, and none such behind the last and ahead of the first. */
    void row(String call, IntUnaryOperator ask, int... want) {
        rowAs(call, NONE, ask, want);
    }

    /** A row of which i NONE tells how many there are. */
    void counted(String call, IntUnaryOperator ask, int... want) {
        rowAs(call, want.length, ask, want);
    }

    /** A row of which all is NONE, i NONE too. */
    void noRow(String call, IntUnaryOperator ask) {
        rowAs(call, NONE, ask);
    }

    private void rowAs(String call, int atNone, IntUnaryOperator ask, int... want) {
        for (int i = 0; i < want.length; i++) {
            is(call + " i " + i, ask.applyAsInt(i), want[i]);
        }
        is(call + " i -1", ask.applyAsInt(-1), atNone);
        is(call + " i -2", ask.applyAsInt(-2), NONE);
        for (int i = want.length; i < want.length + BEHIND; i++) {
            is(call + " i " + i, ask.applyAsInt(i), NONE);
        }
        far(call + " i", NONE, ask);
    }

    /** Numbers that are far off: the same answer for all. */
    void far(String call, int other, IntUnaryOperator ask) {
        for (int number : FAR) {
            is(call + " " + number, ask.applyAsInt(number), other);
        }
    }

    /** Whatever is asked of an object made in one way or in the other, the answers are the same. */
    void same(String what, Webs.Maker one, Webs.Maker other) {
        int[] first = Webs.allAnswers(one);
        int[] second = Webs.allAnswers(other);
        is(what + ", so many answers", first.length, second.length);
        int unlike = 0;
        for (int i = 0; i < first.length && i < second.length; i++) {
            unlike += first[i] == second[i] ? 0 : 1;
        }
        is(what + ", answers that are not the same", unlike, 0);
    }

    void end() {
        checkThatSomethingWasAsked();
        System.out.println(sentences + " sentences, " + asked + " answers, " + wrong + " not as due");
        if (wrong != 0) {
            System.exit(1);
        }
    }
}
