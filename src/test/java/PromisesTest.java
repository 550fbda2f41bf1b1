import java.math.BigInteger;

/** For each promise, answers worked out by hand from the document. */
public final class PromisesTest {
    private static final int NONE = Due.NONE, UNKNOWN = Due.UNKNOWN, OUTSIDE = Due.OUTSIDE,
        STATE = Due.STATE, FULL = Due.FULL;
    private static final int[] FAR = {Integer.MIN_VALUE, -2, Integer.MAX_VALUE};
    private static final Due due = new Due();

    public static void main(String[] args) {
        constants();
        p1NewObject();
        p2Letter();
        p3Blank();
        p4Fault();
        p5Law();
        p6Under();
        p7File();
        p8About();
        p9As();
        p10Copy();
        p11Rename();
        p12Point();
        p13BurnKeeps();
        p13BurnKinds();
        p14Odds();
        p15Where();
        p16Sure();
        p17Nowhere();
        p18Moving();
        p18MovingWithinRoom();
        p19Ashes();
        p20Forget();
        p21Fits();
        p22Burnt();
        p23Years();
        p24Image();
        p25Restore();
        p26Count();
        p27Digest();
        refusalsChangeNothing();
        due.end();
    }

    private static void constants() {
        due.is("NONE", BurntLetters.NONE, -1);
        due.is("UNKNOWN", BurntLetters.UNKNOWN, -101);
        due.is("OUTSIDE", BurntLetters.OUTSIDE, -102);
        due.is("STATE", BurntLetters.STATE, -103);
        due.is("FULL", BurntLetters.FULL, -104);
    }

    private static void p1NewObject() {
        BurntLetters x = new BurntLetters();
        for (int what = 0; what < 10; what++) {
            due.is("1 count(" + what + ")", x.count(what), 0);
        }
        due.is("1 law", x.law(), STATE);
        due.is("1 file", x.file(0, 0), STATE);
        due.is("1 image", x.image(), STATE);
        due.is("1 restore", x.restore(), STATE);
        due.is("1 nowhere", x.nowhere(), 0);
        due.is("1 about", x.about(0, 0), UNKNOWN);
    }

    private static void p2Letter() {
        BurntLetters x = new BurntLetters();
        due.is("2 letter(0)", x.letter(0), OUTSIDE);
        due.is("2 letter(127)", x.letter(127), OUTSIDE);
        due.is("2 letter(-1)", x.letter(-1), OUTSIDE);
        due.is("2 letter(1)", x.letter(1), 1);
        due.is("2 letter(126)", x.letter(126), 2);
        for (int i = 3; i <= 10; i++) {
            due.is("2 letter(50)", x.letter(50), i);
        }
        due.is("2 eleventh", x.letter(50), FULL);
        due.is("2 OUTSIDE ahead of FULL", x.letter(0), OUTSIDE);
        due.is("2 count(6)", x.count(6), 10);
    }

    private static void p3Blank() {
        BurntLetters x = new BurntLetters();
        due.is("3 blank of an empty page", x.blank(), 0);
        Due.type(x, "111115;9zz");
        due.is("3 blank", x.blank(), 10);
        due.is("3 count(6)", x.count(6), 0);
        due.is("3 letter behind it", x.letter('1'), 1);
    }

    private static void p4Fault() {
        faultOf("", 0);
        faultOf("3", 1);
        faultOf("x", 0);
        faultOf("/", 0);
        faultOf(":", 0);
        faultOf("99", 1);
        faultOf("55", 2);
        faultOf("551", 2);
        faultOf("5500", 4);
        faultOf("19/", 2);
        faultOf("00000", 5);
        faultOf("000000", 5);
        faultOf("000009", 5);
        faultOf("000019", 6);
        faultOf("111114", 5);
        faultOf("111116", 5);
        faultOf("11111;", 5);
        faultOf("11111~", 5);
        faultOf("111115", 6);
        faultOf("1111150", 6);
        faultOf("111115:", 6);
        faultOf("111115;", 7);
        faultOf("111115;0", 7);
        faultOf("111115;:", 7);
        faultOf("111115;1", 8);
        faultOf("111115;9", 8);
        faultOf("111115;99", 8);
        faultOf("111115;9;9", 8);
        faultOf("1x9999;9", 1);
    }

    private static void faultOf(String text, int place) {
        BurntLetters x = new BurntLetters();
        Due.type(x, text);
        due.is("4 fault of " + text, x.fault(), place);
        due.is("4 fault leaves the page", x.count(6), text.length());
    }

    private static void p5Law() {
        for (String none : new String[] {"", "111115;", "111115;0", "111115;99", "111114;9", "x11115;9"}) {
            BurntLetters x = new BurntLetters();
            Due.type(x, none);
            due.is("5 law of " + none, x.law(), STATE);
            due.is("5 page stays", x.count(6), none.length());
            due.is("5 not counted", x.count(7), 0);
        }
        BurntLetters x = Due.under("111115;9");
        due.is("5 room", x.count(0), 9);
        due.is("5 page empty", x.count(6), 0);
        x.file(0, 0);
        x.burn(3);
        x.ashes(1);
        x.sure(0, 1, 0);
        x.moving(1);
        Due.type(x, "900001;1");
        due.is("5 another law", x.law(), 1);
        int[] counts = {1, 0, 0, 0, 0, 0, 0, 2, 1, 1};
        for (int what = 0; what < counts.length; what++) {
            due.is("5 count(" + what + ")", x.count(what), counts[what]);
        }
        due.is("5 files are gone", x.about(0, 0), UNKNOWN);
        due.is("5 lots 0", x.under(0, 0), 9);
        due.is("5 lots 1", x.under(1, 0), 0);
        due.is("5 first number again", x.file(2, 0), 0);
        due.is("5 new file points to none", x.about(0, 2), NONE);
    }

    private static void p6Under() {
        BurntLetters x = new BurntLetters();
        due.is("6 lots, no law", x.under(0, 0), 0);
        due.is("6 fullness, no law", x.under(5, 1), 0);
        x = Due.under("012340;5");
        for (int letter = 0; letter < 6; letter++) {
            due.is("6 lots", x.under(letter, 0), letter == 5 ? 0 : letter);
        }
        x.file(0, 2);
        x.file(1, 2);
        x.copy(1, 3);
        due.is("6 fullness 2", x.under(2, 1), 2);
        due.is("6 fullness 3", x.under(3, 1), 1);
        due.is("6 fullness 4", x.under(4, 1), 0);
        due.is("6 letter 6", x.under(6, 0), UNKNOWN);
        due.is("6 letter -1", x.under(-1, 0), UNKNOWN);
        due.is("6 UNKNOWN first", x.under(6, 2), UNKNOWN);
        due.is("6 what 2", x.under(0, 2), OUTSIDE);
        due.is("6 what -1", x.under(0, -1), OUTSIDE);
    }

    private static void p7File() {
        BurntLetters x = new BurntLetters();
        due.is("7 OUTSIDE first", x.file(5, 6), OUTSIDE);
        due.is("7 kind -1", x.file(-1, 0), OUTSIDE);
        due.is("7 UNKNOWN ahead of STATE", x.file(4, 6), UNKNOWN);
        due.is("7 letter -1", x.file(4, -1), UNKNOWN);
        due.is("7 no law", x.file(4, 5), STATE);
        x = Due.under("111115;2");
        due.is("7 first", x.file(0, 0), 0);
        due.is("7 second", x.file(4, 0), 1);
        due.is("7 no room", x.file(1, 0), STATE);
        due.is("7 third", x.file(1, 5), 2);
        due.is("7 fourth", x.file(2, 1), 3);
        due.is("7 fifth", x.file(3, 1), 4);
        due.is("7 STATE ahead of FULL", x.file(3, 1), STATE);
        due.is("7 full", x.file(3, 2), FULL);
        due.is("7 count", x.count(1), 5);
        for (int far : FAR) {
            due.is("7 kind " + far, x.file(far, 0), OUTSIDE);
            due.is("7 letter " + far, x.file(0, far), UNKNOWN);
        }
    }

    private static void p8About() {
        BurntLetters x = Due.under("111115;5");
        int[] names = {2, 6, 2, 3, 3};
        for (int kind = 0; kind < 5; kind++) {
            x.file(kind, kind + 1);
            due.is("8 kind", x.about(kind, 0), kind);
            due.is("8 leaves", x.about(kind, 1), 2 << kind);
            due.is("8 points", x.about(kind, 2), NONE);
            due.is("8 kept", x.about(kind, 3), 0);
            due.is("8 lives", x.about(kind, 4), 1);
            due.is("8 names", x.about(kind, 5), names[kind]);
        }
        x.point(0, 2);
        due.is("8 points to 2", x.about(0, 2), 2);
        x.burn(3);
        due.is("8 kept once", x.about(2, 3), 1);
        x.burn(1);
        due.is("8 dead", x.about(0, 4), 0);
        due.is("8 dead has no leaf", x.about(0, 1), 0);
        due.is("8 dead still points", x.about(0, 2), 2);
        due.is("8 file 5", x.about(5, 0), UNKNOWN);
        due.is("8 file -1", x.about(-1, 0), UNKNOWN);
        due.is("8 UNKNOWN first", x.about(5, 6), UNKNOWN);
        due.is("8 what 6", x.about(0, 6), OUTSIDE);
        due.is("8 what -1", x.about(0, -1), OUTSIDE);
    }

    private static void p9As() {
        BurntLetters x = Due.under("111115;5");
        for (int kind = 0; kind < 5; kind++) {
            x.file(kind, 0);
        }
        for (int file = 0; file < 5; file++) {
            for (int kind = 0; kind < 5; kind++) {
                boolean such = kind == 0 || kind == file || (file == 4 && kind == 3);
                due.is("9 as(" + file + ", " + kind + ")", x.as(file, kind), such ? file : NONE);
            }
        }
        due.is("9 UNKNOWN first", x.as(5, 5), UNKNOWN);
        due.is("9 file -1", x.as(-1, 0), UNKNOWN);
        due.is("9 kind 5", x.as(0, 5), OUTSIDE);
        due.is("9 kind -1", x.as(0, -1), OUTSIDE);
        x.burn(0);
        due.is("9 of a dead one", x.as(4, 3), 4);
    }

    private static void p10Copy() {
        BurntLetters x = Due.under("111115;2");
        x.file(0, 0);
        x.file(3, 0);
        x.file(1, 1);
        due.is("10 no room", x.copy(2, 0), STATE);
        due.is("10 one there", x.copy(0, 0), STATE);
        due.is("10 second leaf", x.copy(0, 5), 2);
        due.is("10 leaves", x.about(0, 1), 33);
        due.is("10 all names of a file", x.copy(0, 1), STATE);
        due.is("10 river's second", x.copy(1, 1), 2);
        due.is("10 river's third", x.copy(1, 2), 3);
        due.is("10 all names of a river", x.copy(1, 3), STATE);
        for (int letter = 2; letter < 6; letter++) {
            due.is("10 rumour", x.copy(2, letter), letter);
        }
        x.file(0, 3);
        x.burn(3);
        due.is("10 dead", x.copy(3, 4), STATE);
        due.is("10 file 4", x.copy(4, 4), UNKNOWN);
        due.is("10 letter 6", x.copy(0, 6), UNKNOWN);
        due.is("10 letter -1", x.copy(3, -1), UNKNOWN);
    }

    private static void p11Rename() {
        BurntLetters x = Due.under("111115;2");
        x.file(0, 0);
        x.file(0, 1);
        due.is("11 to an empty letter", x.rename(0, 0, 5), 1);
        due.is("11 leaves", x.about(0, 1), 32);
        due.is("11 to one with a leaf", x.rename(0, 5, 1), 2);
        due.is("11 gone from there", x.under(5, 1), 0);
        due.is("11 none there", x.rename(0, 5, 4), STATE);
        x.file(0, 2);
        due.is("11 no room", x.rename(2, 2, 1), STATE);
        x.copy(2, 3);
        due.is("11 one under the other", x.rename(2, 2, 3), STATE);
        due.is("11 the same", x.rename(2, 2, 2), UNKNOWN);
        due.is("11 the same where it has none", x.rename(2, 4, 4), UNKNOWN);
        due.is("11 file 3", x.rename(3, 0, 1), UNKNOWN);
        due.is("11 from 6", x.rename(0, 6, 1), UNKNOWN);
        due.is("11 to 6", x.rename(0, 1, 6), UNKNOWN);
        due.is("11 to -1", x.rename(0, 0, -1), UNKNOWN);
        x.burn(1);
        due.is("11 dead", x.rename(0, 1, 4), STATE);
    }

    private static void p12Point() {
        BurntLetters x = Due.under("111115;3");
        x.file(0, 0);
        x.file(1, 1);
        x.file(2, 2);
        due.is("12 first", x.point(0, 1), NONE);
        due.is("12 second", x.point(0, 2), 1);
        due.is("12 to none", x.point(0, NONE), 2);
        due.is("12 to none again", x.point(0, NONE), NONE);
        due.is("12 itself", x.point(0, 0), UNKNOWN);
        due.is("12 to 3", x.point(0, 3), UNKNOWN);
        due.is("12 to -2", x.point(0, -2), UNKNOWN);
        due.is("12 file 3", x.point(3, 0), UNKNOWN);
        due.is("12 file -1", x.point(-1, -1), UNKNOWN);
        x.burn(2);
        due.is("12 a dead one is pointed to", x.point(0, 2), NONE);
        due.is("12 a dead one points", x.point(2, 0), STATE);
        due.is("12 UNKNOWN ahead of STATE", x.point(2, 2), UNKNOWN);
    }

    private static void p13BurnKeeps() {
        BurntLetters x = new BurntLetters();
        due.is("13 UNKNOWN first", x.burn(6), UNKNOWN);
        due.is("13 no law", x.burn(0), STATE);
        x = Due.under("222220;3");
        due.is("13 letter -1", x.burn(-1), UNKNOWN);
        due.is("13 nothing there", x.burn(5), 0);
        due.is("13 years", x.count(4), 1);
        x.file(0, 0);
        x.file(0, 1);
        x.point(1, 0);
        due.is("13 kept", x.burn(0), 0);
        due.is("13 kept once", x.about(0, 3), 1);
        due.is("13 leaf stays", x.about(0, 1), 1);
        due.is("13 not kept twice", x.burn(0), 1);
        due.is("13 dead", x.about(0, 4), 0);
        due.is("13 still kept once", x.about(0, 3), 1);

        x = Due.under("222220;3");
        x.file(2, 0);
        x.file(0, 1);
        x.point(1, 0);
        due.is("13 deed kept", x.burn(0), 0);
        due.is("13 deed kept again", x.burn(0), 0);
        due.is("13 deed burnt", x.burn(0), 1);
        due.is("13 deed kept twice", x.about(0, 3), 2);

        x = Due.under("222220;3");
        x.file(0, 0);
        x.file(0, 0);
        x.copy(0, 2);
        x.point(1, 0);
        due.is("13 not its only leaf", x.burn(2), 1);
        due.is("13 not kept", x.about(0, 3), 0);
        due.is("13 what points lived ahead of the year", x.burn(0), 1);
        due.is("13 left", x.count(2), 1);
        due.is("13 now it does not", x.burn(0), 1);
        due.is("13 none left", x.count(2), 0);
    }

    private static void p13BurnKinds() {
        BurntLetters x = Due.under("222220;3");
        x.file(4, 5);
        x.copy(0, 0);
        x.copy(0, 2);
        due.is("13 flood, behind 5 is 0", x.burn(5), 2);
        due.is("13 flood's third leaf", x.about(0, 1), 4);
        due.is("13 flood has none there", x.burn(1), 0);
        x.copy(0, 1);
        due.is("13 not the letter ahead", x.burn(2), 1);
        due.is("13 flood's leaf", x.about(0, 1), 2);

        x = Due.under("222220;3");
        x.file(4, 2);
        x.file(0, 5);
        x.point(1, 0);
        due.is("13 flood kept", x.burn(2), 0);
        due.is("13 flood's kept", x.about(0, 3), 1);
        x.copy(0, 3);
        due.is("13 flood dies of two", x.burn(2), 2);

        x = Due.under("222220;3");
        x.file(3, 2);
        x.copy(0, 3);
        due.is("13 a river is no flood", x.burn(2), 1);

        x = Due.under("222220;1");
        x.file(1, 0);
        x.file(1, 1);
        due.is("13 rumours grow", x.burn(5), 0);
        due.is("13 rumour 0", x.about(0, 1), 5);
        due.is("13 rumour 1", x.about(1, 1), 10);
        due.is("13 what grows is not told", x.burn(0), 1);
        due.is("13 rumour 0 under 0 again", x.about(0, 1), 5);
        due.is("13 rumour 1 under 4", x.about(1, 1), 26);
        x.burn(5);
        due.is("13 rumour 0 under 5", x.about(0, 1), 37);
        due.is("13 no room for 1", x.about(1, 1), 26);
        x = Due.under("222220;9");
        x.file(1, 0);
        due.is("13 a dead rumour", x.burn(0), 1);
        due.is("13 does not grow", x.about(0, 1), 0);
        due.is("13 ever", x.burn(3) + x.about(0, 1), 0);
    }

    private static void p14Odds() {
        BurntLetters x = Due.under("370000;3");
        x.file(0, 0);
        int[] above = {1, 7, 49, 343, 2401};
        int[] below = {1, 10, 100, 1000, 10000};
        for (int years = 0; years < 5; years++) {
            oddsAre(x, 0, years, above[years], below[years]);
        }
        x = Due.under("500005;3");
        x.file(0, 0);
        oddsAre(x, 0, 4, 1, 16);
        x.file(0, 1);
        x.point(1, 0);
        oddsAre(x, 0, 1, 1, 1);
        oddsAre(x, 0, 2, 3, 4);
        oddsAre(x, 0, 3, 1, 2);
        x.point(1, NONE);
        x.copy(0, 5);
        oddsAre(x, 0, 2, 1, 2);
        x.burn(0);
        x.burn(5);
        oddsAre(x, 0, 0, 0, 1);
        oddsAre(x, 0, 4, 0, 1);
        due.is("14 UNKNOWN first", x.odds(2, 5, 2), UNKNOWN);
        due.is("14 file -1", x.odds(-1, 0, 0), UNKNOWN);
        due.is("14 years 5", x.odds(0, 5, 0), OUTSIDE);
        due.is("14 years -1", x.odds(0, -1, 0), OUTSIDE);
        due.is("14 part 2", x.odds(0, 0, 2), OUTSIDE);
        due.is("14 part -1", x.odds(0, 0, -1), OUTSIDE);

        x = Due.under("550000;1");
        x.file(1, 0);
        x.file(0, 2);
        // Letter 1 burns first: the rumour has 0 and 1 then, and lives behind the next year, too.
        oddsAre(x, 0, 2, 1, 2);
        due.is("14 nothing is changed", x.about(0, 1), 1);
    }

    private static void oddsAre(BurntLetters x, int file, int years, int above, int below) {
        due.is("14 odds(" + file + ", " + years + ", 0)", x.odds(file, years, 0), above);
        due.is("14 odds(" + file + ", " + years + ", 1)", x.odds(file, years, 1), below);
    }

    private static void p15Where() {
        BurntLetters x = Due.under("370000;1");
        x.file(0, 0);
        due.is("15 like ones: the least", x.where(0, 1), 1);
        due.is("15 where it never burns", x.where(0, 2), 2);
        due.is("15 none makes it greater", x.where(0, 0), NONE);
        x.file(0, 2);
        due.is("15 where there is room", x.where(0, 2), 3);
        due.is("15 it is sure", x.where(1, 4), NONE);
        due.is("15 nothing is changed", x.about(0, 1), 1);
        x.copy(0, 3);
        due.is("15 all names", x.where(0, 4), NONE);
        x.file(0, 1);
        x.burn(1);
        due.is("15 dead", x.where(2, 4), NONE);
        due.is("15 UNKNOWN first", x.where(3, 5), UNKNOWN);
        due.is("15 file -1", x.where(-1, 0), UNKNOWN);
        due.is("15 years 5", x.where(0, 5), OUTSIDE);
        due.is("15 years -1", x.where(0, -1), OUTSIDE);

        x = Due.under("222220;3");
        x.file(4, 1);
        x.file(0, 5);
        x.copy(1, 4);
        // Under 0 or 2 one fire takes both leaves; under 3, 4 and 5 none does: of these, all like for a year, the least.
        due.is("15 a flood keeps its distance", x.where(0, 1), 3);
        due.is("15 a flood's copy that never burns", x.where(0, 4), 5);
    }

    private static void p16Sure() {
        BurntLetters x = new BurntLetters();
        due.is("16 OUTSIDE ahead of STATE", x.sure(1, 0, 0), OUTSIDE);
        due.is("16 no law", x.sure(0, 0, 0), STATE);
        x = Due.under("112222;1");
        sureIs(x, 0, 0, 1, 1);
        sureIs(x, 0, 1, 2, 3);
        sureIs(x, 0, 2, NONE, NONE);
        sureIs(x, 3, 2, 3, 7);
        sureIs(x, 3, 3, NONE, NONE);
        sureIs(x, 4, 1, 2, 5);
        sureIs(x, 4, 2, 3, 21);
        sureIs(x, 4, 3, NONE, NONE);
        due.is("16 done", x.count(8), 16);
        for (int[] wrong : new int[][] {{1, 0, 0}, {2, 0, 0}, {5, 0, 0}, {-1, 0, 0}, {0, 5, 0}, {0, -1, 0}, {0, 0, 2},
            {0, 0, -1}}) {
            due.is("16 not as told", x.sure(wrong[0], wrong[1], wrong[2]), OUTSIDE);
        }
        due.is("16 refusals are not counted", x.count(8), 16);
        Due.type(x, "550000;1");
        x.law();
        x.file(0, 2);
        sureIs(x, 0, 4, 1, 4);
        sureIs(x, 4, 4, 1, 4);
        for (int i = 20; i < 30; i++) {
            due.is("16 once more", x.sure(0, 1, 0), 1);
        }
        due.is("16 thirty times", x.sure(0, 1, 0), STATE);
        due.is("16 OUTSIDE still first", x.sure(1, 1, 0), OUTSIDE);
        due.is("16 thirty", x.count(8), 30);
    }

    private static void sureIs(BurntLetters x, int kind, int years, int few, int set) {
        due.is("16 sure(" + kind + ", " + years + ", 0)", x.sure(kind, years, 0), few);
        due.is("16 sure(" + kind + ", " + years + ", 1)", x.sure(kind, years, 1), set);
    }

    private static void p17Nowhere() {
        BurntLetters x = Due.under("222220;5");
        x.file(0, 0);
        x.file(0, 1);
        x.file(0, 2);
        x.file(0, 3);
        x.point(1, 0);
        x.point(2, 0);
        x.point(3, 1);
        due.is("17 all live", x.nowhere(), 0);
        x.burn(0);
        due.is("17 kept", x.nowhere(), 0);
        x.burn(0);
        due.is("17 two point to a dead one", x.nowhere(), 6);
        x.burn(2);
        due.is("17 one of them is dead", x.nowhere(), 2);
        x.point(1, 2);
        due.is("17 to another dead one", x.nowhere(), 2);
        x.point(1, NONE);
        due.is("17 to none", x.nowhere(), 0);
    }

    private static void p18Moving() {
        BurntLetters x = new BurntLetters();
        due.is("18 OUTSIDE ahead of STATE", x.moving(0), OUTSIDE);
        due.is("18 no law", x.moving(1), STATE);
        x = Due.under("111115;5");
        due.is("18 no files", x.moving(1), 0);
        for (int i = 0; i < 5; i++) {
            x.file(0, 0);
        }
        due.is("18 moving(5)", x.moving(5), 0);
        due.is("18 moving(4)", x.moving(4), 1);
        due.is("18 moving(3)", x.moving(3), 2);
        due.is("18 moving(2)", x.moving(2), 3);
        due.is("18 moving(1)", x.moving(1), NONE);
        due.is("18 moving(9)", x.moving(9), 0);
        due.is("18 moving(10)", x.moving(10), OUTSIDE);
        due.is("18 moving(-1)", x.moving(-1), OUTSIDE);
        due.is("18 done", x.count(9), 7);
        due.is("18 nothing is changed", x.under(0, 1), 5);
        for (int i = 7; i < 10; i++) {
            x.moving(9);
        }
        due.is("18 ten times", x.moving(9), STATE);
        due.is("18 OUTSIDE still first", x.moving(0), OUTSIDE);
        due.is("18 ten", x.count(9), 10);
    }

    private static void p18MovingWithinRoom() {
        BurntLetters x = Due.under("111115;2");
        x.file(1, 0);
        for (int letter = 1; letter < 5; letter++) {
            x.copy(0, letter);
        }
        x.file(0, 0);
        // Two leaves are under 0; either may go to 5.
        due.is("18 one goes", x.moving(1), 1);
        x.copy(1, 5);
        due.is("18 seven leaves for six letters", x.moving(1), NONE);

        x = Due.under("111115;3");
        x.file(1, 0);
        x.file(1, 0);
        x.file(0, 0);
        for (int letter = 1; letter < 4; letter++) {
            x.copy(0, letter);
            x.copy(1, letter);
        }
        x.copy(2, 1);
        // Under 0 to 5 are 3, 3, 2, 2, 0, 0: the file's two leaves go to 4 and 5.
        due.is("18 two letters have one too many", x.moving(2), 2);
        for (int letter = 4; letter < 6; letter++) {
            x.copy(0, letter);
            x.copy(1, letter);
        }
        due.is("18 fourteen leaves for twelve places", x.moving(2), NONE);

        x = Due.under("111115;1");
        x.file(0, 0);
        due.is("18 room is no matter where none goes", x.moving(1), 0);
    }

    private static void p19Ashes() {
        BurntLetters x = new BurntLetters();
        due.is("19 no law, no files", x.ashes(0), 1);
        due.is("19 a file that is none", x.ashes(1), OUTSIDE);
        x = Due.under("550000;3");
        x.file(0, 0);
        x.file(0, 1);
        due.is("19 set 4", x.ashes(4), OUTSIDE);
        due.is("19 set -2", x.ashes(-2), OUTSIDE);
        due.is("19 first", x.ashes(3), 1);
        due.is("19 nothing is told", x.ashes(NONE), 2);
        due.is("19 third", x.ashes(0), 3);
        x.ashes(1);
        due.is("19 fifth", x.ashes(2), 5);
        due.is("19 sixth", x.ashes(2), FULL);
        due.is("19 OUTSIDE first", x.ashes(4), OUTSIDE);
        due.is("19 count", x.count(5), 5);
        x.burn(0);
        due.is("19 burn leaves them", x.count(5), 5);
    }

    private static void p20Forget() {
        BurntLetters x = new BurntLetters();
        due.is("20 none", x.forget(), 0);
        x = Due.under("550000;3");
        x.ashes(0);
        x.ashes(NONE);
        due.is("20 two", x.forget(), 2);
        due.is("20 empty", x.count(5), 0);
        due.is("20 the first again", x.ashes(0), 1);
    }

    private static void p21Fits() {
        BurntLetters x = new BurntLetters();
        due.is("21 no law", x.fits(), STATE);
        x = Due.under("550000;3");
        due.is("21 the empty row", x.fits(), 1);
        x.file(0, 0);
        x.file(0, 1);
        x.ashes(1);
        due.is("21 letter 1", x.fits(), 1);
        x.ashes(NONE);
        due.is("21 any behind it", x.fits(), 2);
        x.ashes(0);
        due.is("21 letter 0 in one of two", x.fits(), 3);
        x.ashes(1);
        due.is("21 none lives again", x.fits(), 0);

        x = Due.under("550000;3");
        x.file(0, 2);
        x.ashes(0);
        due.is("21 letters without lots", x.fits(), 0);
        x.forget();
        x.ashes(1);
        due.is("21 letters with lots", x.fits(), 2);
        x.file(0, 2);
        due.is("21 a file since, not told of", x.fits(), 0);
        x = Due.under("111115;3");
        for (int i = 0; i < 5; i++) {
            x.ashes(NONE);
        }
        due.is("21 all rows", x.fits(), 7776);
    }

    private static void p22Burnt() {
        BurntLetters x = new BurntLetters();
        due.is("22 UNKNOWN first", x.burnt(0), UNKNOWN);
        x.ashes(0);
        due.is("22 no law", x.burnt(0), STATE);
        x = Due.under("550000;3");
        x.file(0, 0);
        x.file(0, 1);
        due.is("22 no years", x.burnt(0), UNKNOWN);
        x.ashes(1);
        x.ashes(NONE);
        x.ashes(0);
        due.is("22 the same", x.burnt(0), 1);
        due.is("22 not the same", x.burnt(1), NONE);
        due.is("22 not the same either", x.burnt(2), NONE);
        due.is("22 year 3", x.burnt(3), UNKNOWN);
        due.is("22 year -1", x.burnt(-1), UNKNOWN);
        x.ashes(2);
        due.is("22 no such rows", x.burnt(0), NONE);
        x.forget();
        x.ashes(3);
        due.is("22 none spares both", x.burnt(0), NONE);
        x.forget();
        x.ashes(2);
        due.is("22 letter 0", x.burnt(0), 0);
        x.forget();
        x.ashes(NONE);
        x.ashes(1);
        x.ashes(NONE);
        due.is("22 an earlier year, nothing told", x.burnt(0), 1);
        due.is("22 as it is alike", x.burnt(1), 1);
        due.is("22 a later year, nothing told", x.burnt(2), NONE);
    }

    private static void p23Years() {
        BurntLetters x = new BurntLetters();
        due.is("23 OUTSIDE ahead of STATE", x.years(0, 0, 0), OUTSIDE);
        due.is("23 no law", x.years(1, 0, 0), STATE);
        x = Due.under("111115;9");
        for (int[] wrong : new int[][] {{0, 0, 0}, {61, 0, 0}, {-1, 0, 0}, {1, -1, 0}, {1, 0, 3}, {1, 0, -1}}) {
            due.is("23 not as told", x.years(wrong[0], wrong[1], wrong[2]), OUTSIDE);
        }
        int[] lots = {1, 1, 1, 1, 1, 5};
        int[] seeds = {0, 1, 7, 65535, 99999999, Integer.MAX_VALUE};
        for (int letter = 0; letter < 5; letter++) {
            x.file(0, letter);
        }
        for (int seed : seeds) {
            due.is("23 years(1, " + seed + ", 0)", x.years(1, seed, 0), 31 & ~(1 << burntFirst(seed, lots)));
            for (int years : new int[] {1, 2, 60}) {
                due.is("23 the seed then", x.years(years, seed, 2), seedBehind(seed, years));
            }
        }
        due.is("23 nothing is changed", x.count(3) * 10 + x.count(4), 50);
        Due.type(x, "900001;9");
        x.law();
        x.file(1, 1);
        due.is("23 a rumour fills up", x.years(60, 5, 0), 1);
        due.is("23 but for 0, at times", x.years(60, 5, 1) >= 5 ? 1 : 0, 1);
    }

    private static long seedBehind(int seed, int years) {
        BigInteger at = BigInteger.valueOf(seed);
        for (int i = 0; i < years; i++) {
            at = at.multiply(BigInteger.valueOf(1103515245)).add(BigInteger.valueOf(12345))
                .mod(BigInteger.TWO.pow(31));
        }
        return at.longValueExact();
    }

    private static int burntFirst(int seed, int[] lots) {
        int draw = (int) (seedBehind(seed, 1) / 65536 % 10);
        int below = 0;
        for (int letter = 0; letter < 6; letter++) {
            below += lots[letter];
            if (draw < below) {
                return letter;
            }
        }
        throw new IllegalStateException();
    }

    private static void p24Image() {
        BurntLetters x = new BurntLetters();
        due.is("24 no law", x.image(), STATE);
        x = Due.under("222220;3");
        due.is("24 no years", x.image(), 0);
        x.burn(0);
        x.burn(0);
        due.is("24 years", x.image(), 2);
        x.burn(0);
        due.is("24 the latest", x.restore(), 2);
    }

    private static void p25Restore() {
        BurntLetters x = Due.under("222220;3");
        due.is("25 none was kept", x.restore(), STATE);
        x.file(2, 0);
        x.file(0, 1);
        x.point(1, 0);
        x.burn(0);
        x.ashes(3);
        x.image();
        long kept = x.digest();
        x.point(1, NONE);
        x.burn(0);
        x.burn(1);
        x.file(1, 2);
        x.forget();
        x.ashes(0);
        x.ashes(0);
        due.is("25 years", x.restore(), 1);
        due.is("25 files", x.count(1), 2);
        due.is("25 those since are gone", x.about(2, 0), UNKNOWN);
        due.is("25 leaves", x.about(0, 1) * 10 + x.about(1, 1), 12);
        due.is("25 kept", x.about(0, 3), 1);
        due.is("25 points", x.about(1, 2), 0);
        due.is("25 ashes", x.count(5), 1);
        due.is("25 digest", x.digest(), kept);
        x.burn(1);
        due.is("25 again", x.restore(), 1);
        due.is("25 digest again", x.digest(), kept);
        x.letter('1');
        x.sure(0, 0, 0);
        x.moving(1);
        x.restore();
        due.is("25 the page stays", x.count(6), 1);
        due.is("25 sure() stays done", x.count(8), 1);
        due.is("25 moving() stays done", x.count(9), 1);
        x.blank();
        Due.type(x, "222220;3");
        x.law();
        due.is("25 another law since", x.restore(), STATE);
        x.image();
        due.is("25 an image since", x.restore(), 0);
    }

    private static void p26Count() {
        BurntLetters x = Due.under("222220;7");
        x.file(0, 0);
        x.file(3, 1);
        x.copy(1, 2);
        x.file(0, 3);
        x.burn(3);
        x.burn(4);
        x.burn(4);
        x.burn(4);
        for (int i = 0; i < 5; i++) {
            x.ashes(0);
        }
        Due.type(x, "abcdef");
        for (int i = 0; i < 9; i++) {
            x.sure(0, 0, 0);
        }
        for (int i = 0; i < 8; i++) {
            x.moving(1);
        }
        int[] counts = {7, 3, 2, 3, 4, 5, 6, 1, 9, 8};
        for (int what = 0; what < counts.length; what++) {
            due.is("26 count(" + what + ")", x.count(what), counts[what]);
        }
        due.is("26 count(10)", x.count(10), OUTSIDE);
        due.is("26 count(-1)", x.count(-1), OUTSIDE);
        for (int far : FAR) {
            due.is("26 count(" + far + ")", x.count(far), OUTSIDE);
        }
    }

    private static void p27Digest() {
        BurntLetters x = new BurntLetters();
        due.is("27 of a new object", x.digest(), digestByHand(x, ""));
        Due.type(x, "z12");
        due.is("27 of a page", x.digest(), digestByHand(x, "z12"));
        x.blank();
        Due.type(x, "222220;3");
        x.law();
        due.is("27 of a law", x.digest(), digestByHand(x, ""));
        for (int kind = 0; kind < 5; kind++) {
            x.file(kind, kind);
        }
        x.point(0, 2);
        x.point(1, 3);
        x.ashes(31);
        x.ashes(NONE);
        x.sure(3, 2, 0);
        x.moving(2);
        Due.type(x, "9;");
        due.is("27 of all", x.digest(), digestByHand(x, "9;"));
        x.burn(3);
        x.burn(3);
        due.is("27 behind two years", x.digest(), digestByHand(x, "9;"));
        due.is("27 changes nothing", x.digest(), digestByHand(x, "9;"));
    }

    private static long digestByHand(BurntLetters x, String page) {
        long h = 769;
        for (int letter = 0; letter < 6; letter++) {
            h = 31 * h + x.under(letter, 0);
            h = 31 * h + x.under(letter, 1);
        }
        for (int file = 0; file < x.count(1); file++) {
            for (int what = 0; what < 6; what++) {
                h = 31 * h + x.about(file, what);
            }
            h = 31 * h + x.odds(file, 2, 0);
            h = 31 * h + x.odds(file, 2, 1);
            h = 31 * h + x.where(file, 2);
        }
        h = 31 * h + x.nowhere();
        if (x.count(0) > 0) {
            h = 31 * h + x.fits();
        }
        for (char c : page.toCharArray()) {
            h = 31 * h + c;
        }
        for (int what = 0; what < 10; what++) {
            h = 31 * h + x.count(what);
        }
        return h;
    }

    private static void refusalsChangeNothing() {
        BurntLetters x = Due.under("222220;1");
        x.file(0, 0);
        x.file(1, 1);
        x.point(0, 1);
        x.ashes(3);
        Due.type(x, "12");
        long before = x.digest();
        x.letter(0);
        x.law();
        x.file(9, 0);
        x.file(0, 9);
        x.file(0, 0);
        x.copy(0, 1);
        x.copy(0, 9);
        x.rename(0, 0, 1);
        x.rename(0, 3, 4);
        x.rename(0, 0, 0);
        x.point(0, 0);
        x.point(0, 7);
        x.burn(6);
        x.sure(1, 0, 0);
        x.moving(0);
        x.ashes(4);
        x.restore();
        x.years(61, 0, 0);
        x.burnt(5);
        due.is("refusals change nothing", x.digest(), before);
    }
}
