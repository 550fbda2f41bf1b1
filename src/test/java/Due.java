/** What the project's tests share: answers set against what is due, and laws typed on a page. */
final class Due {
    static final int NONE = -1, UNKNOWN = -101, OUTSIDE = -102, STATE = -103, FULL = -104;

    private int checked;
    private int wrong;

    void is(String call, long got, long want) {
        checked++;
        if (got != want) {
            wrong++;
            System.out.println(call + " answered " + got + ", due is " + want);
        }
    }

    void isTrue(String what, boolean holds) {
        checked++;
        if (!holds) {
            wrong++;
            System.out.println("does not hold: " + what);
        }
    }

    int wrong() {
        return wrong;
    }

    void end() {
        System.out.println(checked + " answers, " + wrong + " of them wrong");
        if (wrong != 0 || checked == 0) {
            System.exit(1);
        }
    }

    static void type(BurntLetters x, String text) {
        for (char c : text.toCharArray()) {
            x.letter(c);
        }
    }

    static BurntLetters under(String law) {
        BurntLetters x = new BurntLetters();
        type(x, law);
        x.law();
        return x;
    }
}
