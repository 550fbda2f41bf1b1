import java.util.ArrayList;
import java.util.List;

/** All that an object tells, then what it does when it goes on: some 300 calls, so it still is below its 512. */
final class Trace {
    private final BurntLetters x;
    private final List<String> answers = new ArrayList<>();

    private Trace(BurntLetters x) {
        this.x = x;
    }

    static List<String> of(BurntLetters x) {
        Trace trace = new Trace(x);
        trace.tellAll("now");
        trace.add("restore()", x.restore());
        trace.tellAll("restored");
        trace.goOn();
        return trace.answers;
    }

    private void add(String call, long answer) {
        answers.add(call + " answered " + answer);
    }

    private void tellAll(String when) {
        for (int what = 0; what < 10; what++) {
            add(when + " count(" + what + ")", x.count(what));
        }
        for (int letter = 0; letter < 6; letter++) {
            add(when + " under(" + letter + ", 0)", x.under(letter, 0));
            add(when + " under(" + letter + ", 1)", x.under(letter, 1));
        }
        for (int file = 0; file < x.count(1); file++) {
            for (int what = 0; what < 6; what++) {
                add(when + " about(" + file + ", " + what + ")", x.about(file, what));
            }
            add(when + " odds(" + file + ", 3, 0)", x.odds(file, 3, 0));
            add(when + " odds(" + file + ", 3, 1)", x.odds(file, 3, 1));
            add(when + " where(" + file + ", 2)", x.where(file, 2));
        }
        for (int year = 0; year < x.count(5); year++) {
            add(when + " burnt(" + year + ")", x.burnt(year));
        }
        add(when + " nowhere()", x.nowhere());
        add(when + " fits()", x.fits());
        add(when + " fault()", x.fault());
        add(when + " years(9, 5, 0)", x.years(9, 5, 0));
        add(when + " years(9, 5, 1)", x.years(9, 5, 1));
        add(when + " digest()", x.digest());
    }

    private void goOn() {
        for (int i = x.count(5); i <= 5; i++) {
            add("ashes(-1)", x.ashes(-1));
        }
        for (int i = x.count(9); i <= 10; i++) {
            add("moving(1)", x.moving(1));
        }
        for (int i = x.count(8); i <= 30; i++) {
            add("sure(3, 1, 1)", x.sure(3, 1, 1));
        }
        for (int i = x.count(1); i <= 5; i++) {
            add("file(0, 4)", x.file(0, 4));
        }
        for (int i = x.count(6); i <= 10; i++) {
            add("letter(9)", x.letter(9));
        }
        add("digest()", x.digest());
        add("image()", x.image());
        add("blank()", x.blank());
        Due.type(x, "111115;7");
        add("law()", x.law());
        add("restore()", x.restore());
        add("digest()", x.digest());
    }
}
