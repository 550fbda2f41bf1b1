import java.io.IOException;

/** The edges of promises 1 to 6: a new object, the page, the law. */
public final class EdgesOfLawTest {
    private static final int NONE = Edges.NONE, UNKNOWN = Edges.UNKNOWN, OUTSIDE = Edges.OUTSIDE,
        STATE = Edges.STATE, FULL = Edges.FULL;
    private static final String LAW = "111115;9";
    private static Edges edges;

    public static void main(String[] args) throws IOException {
        edges = new Edges();
        newObjectIsEmpty();
        newObjectHasNoLaw();
        objectsShareNothing();
        letterCounts();
        letterOutside();
        letterFull();
        letterRefusalsInOrder();
        blankEmpties();
        faultOfEachLetterAtEachPlace();
        faultAboveTen();
        faultNotTen();
        faultFiveNoughts();
        faultIsTheFirst();
        faultOfNone();
        faultBehindALaw();
        lotsAreDigits();
        roomIsOneToNine();
        lawEmptiesThePage();
        lawEndsAnother();
        lawAtFirst();
        lawIsNone();
        underLots();
        underFullness();
        underRefusals();
        edges.end(1, 6);
    }

    private static BurntLetters page(String text) {
        BurntLetters x = new BurntLetters();
        Due.type(x, text);
        return x;
    }

    private static void newObjectIsEmpty() {
        edges.says(1, "A new object");
        BurntLetters x = new BurntLetters();
        for (int what = 0; what < 10; what++) {
            edges.is("count(" + what + ")", x.count(what), 0);
        }
        for (int letter = 0; letter < 6; letter++) {
            edges.is("under(" + letter + ", 0)", x.under(letter, 0), 0);
            edges.is("under(" + letter + ", 1)", x.under(letter, 1), 0);
        }
        edges.is("blank()", x.blank(), 0);
        edges.is("fault()", x.fault(), 0);
        edges.is("nowhere()", x.nowhere(), 0);
        edges.is("forget()", x.forget(), 0);
        edges.is("about(0, 0)", x.about(0, 0), UNKNOWN);
        edges.is("burnt(0)", x.burnt(0), UNKNOWN);
    }

    private static void newObjectHasNoLaw() {
        edges.says(1, "No LAW.");
        edges.refused(STATE, "law()", Edges::bare, x -> x.law());
        edges.refused(STATE, "file(0, 0)", Edges::bare, x -> x.file(0, 0));
        edges.refused(STATE, "burn(0)", Edges::bare, x -> x.burn(0));
        edges.refused(STATE, "sure(0, 0, 0)", Edges::bare, x -> x.sure(0, 0, 0));
        edges.refused(STATE, "moving(1)", Edges::bare, x -> x.moving(1));
        edges.refused(STATE, "fits()", Edges::bare, x -> x.fits());
        edges.refused(STATE, "burnt(0)", Edges::bare, x -> x.burnt(0));
        edges.refused(STATE, "years(1, 0, 0)", Edges::bare, x -> x.years(1, 0, 0));
        edges.refused(STATE, "image()", Edges::bare, x -> x.image());
        edges.refused(STATE, "restore()", Edges::bare, x -> x.restore());
    }

    private static void objectsShareNothing() {
        edges.says(1, "No LAW.");
        Edges.busy();
        edges.isAlike("another object has a law", new BurntLetters(), new BurntLetters());
        BurntLetters first = Edges.busy();
        BurntLetters second = Due.under("900001;1");
        second.file(1, 0);
        second.burn(5);
        edges.isAlike("a second object since", first, Edges.busy());
    }

    private static void letterCounts() {
        edges.says(2, "how many THE PAGE has");
        BurntLetters x = new BurntLetters();
        for (int many = 1; many <= 10; many++) {
            edges.is("letter " + many, x.letter('0' + many), many);
            edges.is("count(6)", x.count(6), many);
        }
    }

    private static void letterOutside() {
        edges.says(2, "OUTSIDE: code (1 to 126)");
        for (int code = 1; code <= 126; code++) {
            edges.is("letter(" + code + ")", new BurntLetters().letter(code), 1);
        }
        for (int code : new int[] {0, 127, -1, 128, 255, 256 + '1', Integer.MIN_VALUE, Integer.MAX_VALUE}) {
            edges.refused(OUTSIDE, "letter(" + code + ")", Edges::busy, x -> x.letter(code));
        }
    }

    private static void letterFull() {
        edges.says(2, "FULL: above 10");
        edges.is("the tenth", page("123456789").letter('1'), 10);
        edges.refused(FULL, "the eleventh", () -> page("1234567890"), x -> x.letter('1'));
        BurntLetters x = page("1234567890");
        x.letter('1');
        x.blank();
        edges.is("the first, behind blank()", x.letter('1'), 1);
    }

    private static void letterRefusalsInOrder() {
        edges.says(2, "OUTSIDE: code (1 to 126); FULL: above 10");
        edges.refused(OUTSIDE, "letter(0) on a full page", () -> page("1234567890"), x -> x.letter(0));
        edges.refused(OUTSIDE, "letter(127) on a full page", () -> page("1234567890"), x -> x.letter(127));
    }

    private static void blankEmpties() {
        edges.says(3, "THE PAGE is empty: how many letters it had.");
        for (String text : new String[] {"", "1", LAW, "1234567890"}) {
            BurntLetters x = page(text);
            edges.is("blank() of " + text, x.blank(), text.length());
            edges.is("count(6)", x.count(6), 0);
            edges.is("fault()", x.fault(), 0);
            edges.is("blank() again", x.blank(), 0);
            edges.isAlike("all is as new", x, new BurntLetters());
        }
        BurntLetters x = Edges.busy();
        x.blank();
        Due.type(x, "12");
        edges.isAlike("the law, files and all stay", x, Edges.busy());
    }

    /** Every code at every place of a page whose letters ahead of it are those of a law. */
    private static void faultOfEachLetterAtEachPlace() {
        edges.says(4, "the first letter of THE PAGE that no LAW has there");
        for (int place = 0; place <= 9; place++) {
            String ahead = (LAW + "1").substring(0, place);
            for (int code = 1; code <= 126; code++) {
                BurntLetters x = page(ahead);
                x.letter(code);
                int due = place > 8 ? 8 : mayStand(place, (char) code) ? place + 1 : place;
                edges.is("fault() of " + ahead + " and code " + code, x.fault(), due);
            }
        }
    }

    /** Behind so many "1", five at most, in a page of the text 111115;9. */
    private static boolean mayStand(int place, char code) {
        switch (place) {
            case 0: case 1: case 2: case 3: case 4:
                return code >= '0' && code <= '9' && place + (code - '0') <= 10;
            case 5:
                return code == '5';
            case 6:
                return code == ';';
            case 7:
                return code >= '1' && code <= '9';
            default:
                return false;
        }
    }

    private static void faultOf(String text, int place) {
        edges.tells(place, "fault() of " + text, () -> page(text), x -> x.fault());
    }

    private static void faultAboveTen() {
        edges.says(4, "one by which they are above 10");
        faultOf("91", 2);
        faultOf("92", 1);
        faultOf("99", 1);
        faultOf("550", 3);
        faultOf("551", 2);
        faultOf("00009", 5);
        faultOf("00092", 4);
        faultOf("22222", 5);
        faultOf("22223", 4);
        faultOf("22222000", 6);
        faultOf("3333", 3);
        faultOf("000092", 5);
        faultOf("123419", 4);
    }

    private static void faultNotTen() {
        edges.says(4, "the last one, if they are not 10 then");
        faultOf("111115", 6);
        faultOf("111114", 5);
        faultOf("111116", 5);
        faultOf("550000", 6);
        faultOf("450000", 5);
        faultOf("000019", 6);
        faultOf("000018", 5);
        faultOf("222221", 5);
        faultOf("222220", 6);
        faultOf("111110;9", 5);
    }

    private static void faultFiveNoughts() {
        edges.says(4, "five 0 may stand");
        faultOf("0", 1);
        faultOf("00", 2);
        faultOf("000", 3);
        faultOf("0000", 4);
        faultOf("00000", 5);
        for (char last = '0'; last <= '9'; last++) {
            faultOf("00000" + last, 5);
        }
        faultOf("00000;", 5);
        faultOf("000000;1", 5);
    }

    private static void faultIsTheFirst() {
        edges.says(4, "The place (from 0) of the first letter of THE PAGE that no LAW has there, behind those ahead");
        faultOf("x", 0);
        faultOf(";", 0);
        faultOf("xx", 0);
        faultOf("x11115;9", 0);
        faultOf("1x9999;9", 1);
        faultOf("111115x0", 6);
        faultOf("111115;0x", 7);
        faultOf("99x", 1);
    }

    private static void faultOfNone() {
        edges.says(4, "how many letters it has, if there is none");
        for (int many = 0; many <= 8; many++) {
            faultOf(LAW.substring(0, many), many);
        }
    }

    private static void faultBehindALaw() {
        edges.says(4, "that no LAW has there");
        faultOf(LAW + "1", 8);
        faultOf(LAW + ";", 8);
        faultOf(LAW + ";9", 8);
        faultOf("x11115;999", 0);
    }

    private static void lotsAreDigits() {
        edges.says(Edges.TERMS, "six digits LOTS (TENTHS: how likely each LETTER is burnt in a YEAR; 10 together)");
        for (String lots : new String[] {"910000", "000019", "190000", "000091", "550000", "012340", "222220"}) {
            BurntLetters x = Due.under(lots + ";4");
            edges.is("room of " + lots, x.count(0), 4);
            for (int letter = 0; letter < 6; letter++) {
                edges.is("under(" + letter + ", 0) of " + lots, x.under(letter, 0), lots.charAt(letter) - '0');
            }
        }
    }

    private static void roomIsOneToNine() {
        edges.says(Edges.TERMS, "a digit ROOM (1 to 9: how many LEAVES one LETTER may have)");
        for (int room = 1; room <= 9; room++) {
            BurntLetters x = page("222220;" + room);
            edges.is("law() of room " + room, x.law(), room);
            edges.is("count(0)", x.count(0), room);
            for (int file = 0; file < 5; file++) {
                edges.is("file " + file + " with room " + room, x.file(0, 3), file < room ? file : STATE);
            }
        }
    }

    private static void lawEmptiesThePage() {
        edges.says(5, "ROOM; THE PAGE is empty then");
        BurntLetters x = page(LAW);
        edges.is("law()", x.law(), 9);
        edges.is("count(6)", x.count(6), 0);
        edges.is("fault()", x.fault(), 0);
        edges.is("blank()", x.blank(), 0);
        edges.is("law() of the empty page", x.law(), STATE);
        edges.is("count(7)", x.count(7), 1);
        edges.is("the law stays", x.count(0), 9);
    }

    private static void lawEndsAnother() {
        edges.says(5, "another one is gone, with FILES, YEARS, ASHES");
        BurntLetters x = Edges.busy();
        x.blank();
        Due.type(x, "190000;1");
        edges.is("law()", x.law(), 1);
        int[] counts = {1, 0, 0, 0, 0, 0, 0, 2, 1, 1};
        for (int what = 0; what < counts.length; what++) {
            edges.is("count(" + what + ")", x.count(what), counts[what]);
        }
        int[] lots = {1, 9, 0, 0, 0, 0};
        for (int letter = 0; letter < 6; letter++) {
            edges.is("under(" + letter + ", 0)", x.under(letter, 0), lots[letter]);
            edges.is("under(" + letter + ", 1)", x.under(letter, 1), 0);
        }
        edges.is("about(0, 0)", x.about(0, 0), UNKNOWN);
        edges.is("nowhere()", x.nowhere(), 0);
        edges.is("fits()", x.fits(), 1);
        edges.is("burnt(0)", x.burnt(0), UNKNOWN);
        edges.is("restore()", x.restore(), STATE);
        int[] first = {0, 2, NONE, 0, 1, 2};
        edges.is("the first file again", x.file(0, 1), 0);
        for (int what = 0; what < first.length; what++) {
            edges.is("about(0, " + what + ")", x.about(0, what), first[what]);
        }
    }

    private static void lawAtFirst() {
        edges.says(5, "with FILES, YEARS, ASHES");
        // The words tell of another law's ashes; those told while there was none are taken to be gone, too.
        BurntLetters x = new BurntLetters();
        x.ashes(0);
        x.ashes(NONE);
        Due.type(x, LAW);
        x.law();
        edges.isAlike("ashes ahead of the first law", x, Due.under(LAW));
    }

    private static void lawIsNone() {
        edges.says(5, "STATE: it is none");
        String[] none = {"", "1", "222220", "222220;", "222220;0", "222220;:", "222220;11", "222220;1;", "222221;1",
            "222219;1", "000000;1", "x22220;1", "222220,1", ";222220;1", " 222220;1"};
        for (String text : none) {
            edges.refused(STATE, "law() of " + text, Edges.busyThen(x -> {
                x.blank();
                Due.type(x, text);
            }), x -> x.law());
            edges.refused(STATE, "the first law() of " + text, () -> page(text), x -> x.law());
        }
    }

    private static void underLots() {
        edges.says(6, "0 LOTS (0: no LAW)");
        for (int letter = 0; letter < 6; letter++) {
            edges.is("no law, under(" + letter + ", 0)", new BurntLetters().under(letter, 0), 0);
        }
        BurntLetters x = Due.under("900001;1");
        edges.is("under(0, 0)", x.under(0, 0), 9);
        edges.is("under(1, 0)", x.under(1, 0), 0);
        edges.is("under(5, 0)", x.under(5, 0), 1);
    }

    private static void underFullness() {
        edges.says(6, "1 FULLNESS");
        BurntLetters x = Due.under("222220;9");
        for (int many = 0; many <= 5; many++) {
            edges.is("under(5, 1) of " + many, x.under(5, 1), many);
            edges.is("under(0, 1)", x.under(0, 1), 0);
            x.file(0, 5);
        }
        x.copy(0, 0);
        edges.is("a copy's letter", x.under(0, 1), 1);
        edges.is("its other letter", x.under(5, 1), 5);
        x.burn(5);
        edges.is("what is burnt", x.under(5, 1), 0);
    }

    private static void underRefusals() {
        edges.says(6, "UNKNOWN; OUTSIDE");
        for (int letter : new int[] {-1, 6, Integer.MIN_VALUE, Integer.MAX_VALUE}) {
            edges.refused(UNKNOWN, "under(" + letter + ", 0)", Edges::busy, x -> x.under(letter, 0));
            edges.refused(UNKNOWN, "under(" + letter + ", 2)", Edges::busy, x -> x.under(letter, 2));
        }
        for (int what : new int[] {-1, 2, Integer.MIN_VALUE, Integer.MAX_VALUE}) {
            edges.refused(OUTSIDE, "under(0, " + what + ")", Edges::busy, x -> x.under(0, what));
            edges.refused(OUTSIDE, "no law, under(5, " + what + ")", Edges::bare, x -> x.under(5, what));
        }
    }
}
