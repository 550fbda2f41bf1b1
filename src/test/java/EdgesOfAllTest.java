import java.io.IOException;
import java.math.BigInteger;
import java.util.ArrayList;
import java.util.List;
import java.util.function.Supplier;

/** The edges of promises 24 to 27: images, what is told of all; and how long an object is used. */
public final class EdgesOfAllTest {
    private static final int NONE = Edges.NONE, UNKNOWN = Edges.UNKNOWN, OUTSIDE = Edges.OUTSIDE, STATE = Edges.STATE;
    private static final int FILE = 0, RUMOUR = 1, DEED = 2, RIVER = 3, FLOOD = 4;
    private static Edges edges;

    public static void main(String[] args) throws IOException {
        edges = new Edges();
        imageTellsYears();
        imageIsTheLatest();
        imageState();
        imageKeepsAllThatIsTold();
        imageStaysAsItIs();
        imageOfNothing();
        imageOfFiveFiles();
        restoreLeavesTheRest();
        restoreNoneWasKept();
        restoreAnotherLawSince();
        countRoom();
        countFilesLivingLeaves();
        countYearsAndAshes();
        countPageAndLaws();
        countSureAndMoving();
        countOutside();
        digestOfANewObject();
        digestWrapsAround();
        digestOfEachNumber();
        digestTellsOnly();
        fiveHundredAndTwelveCalls();
        edges.end(24, 27);
    }

    private static void imageTellsYears() {
        edges.says(24, "An IMAGE is kept (one; the latest): YEARS");
        BurntLetters x = Due.under("222220;9");
        for (int years = 0; years < 4; years++) {
            edges.is("image()", x.image(), years);
            edges.is("image() again", x.image(), years);
            x.burn(0);
        }
    }

    private static void imageIsTheLatest() {
        edges.says(24, "one; the latest");
        BurntLetters x = Due.under("222220;9");
        x.file(FILE, 0);
        x.image();
        x.burn(1);
        x.file(FILE, 1);
        x.image();
        x.burn(2);
        x.file(FILE, 2);
        edges.is("restore()", x.restore(), 1);
        edges.is("count(1)", x.count(1), 2);
        edges.is("restore() again", x.restore(), 1);
        edges.is("count(1) again", x.count(1), 2);
    }

    private static void imageState() {
        edges.says(24, "STATE: no LAW");
        edges.refused(STATE, "image()", Edges::bare, x -> x.image());
        edges.refused(STATE, "image() of a new object", () -> new BurntLetters(), x -> x.image());
        BurntLetters x = Edges.bare();
        x.image();
        edges.is("nothing was kept", x.restore(), STATE);
    }

    private static BurntLetters imaged() {
        BurntLetters x = Due.under("111115;9");
        x.file(DEED, 0);
        x.file(FLOOD, 5);
        x.copy(1, 2);
        x.file(FILE, 3);
        x.point(2, 0);
        x.point(1, 2);
        x.burn(0);
        x.burn(3);
        x.burn(4);
        x.ashes(7);
        x.ashes(NONE);
        x.ashes(6);
        x.image();
        return x;
    }

    private static void imageKeepsAllThatIsTold() {
        edges.says(Edges.TERMS, "An IMAGE keeps how many FILES there are (those that come since are gone by restore()), "
            + "all that is told of them, YEARS, ASHES");
        BurntLetters x = imaged();
        x.file(RUMOUR, 1);
        x.file(RIVER, 4);
        x.copy(0, 4);
        x.rename(1, 5, 1);
        x.point(2, 1);
        x.point(1, NONE);
        x.burn(0);
        x.burn(2);
        x.burn(3);
        x.forget();
        x.ashes(0);
        edges.is("restore()", x.restore(), 3);
        edges.is("a file that came since", x.about(3, 0), UNKNOWN);
        edges.is("nobody points to one that is gone", x.about(2, 2), 0);
        edges.isAlike("behind restore()", x, imaged());
        x = imaged();
        x.forget();
        x.restore();
        edges.isAlike("the ashes alone", x, imaged());
        x = imaged();
        x.burn(0);
        x.restore();
        edges.isAlike("a year alone", x, imaged());
        x = imaged();
        x.point(1, 0);
        x.restore();
        edges.isAlike("a pointer alone", x, imaged());
    }

    private static void imageStaysAsItIs() {
        edges.says(25, "It goes on from the IMAGE: YEARS");
        BurntLetters x = imaged();
        for (int i = 0; i < 3; i++) {
            x.restore();
            x.burn(5);
            x.burn(0);
            x.file(FILE, i);
            x.point(1, NONE);
            x.forget();
            x.ashes(i);
        }
        edges.is("restore()", x.restore(), 3);
        edges.isAlike("again and again", x, imaged());
        x = imaged();
        edges.is("restore() at once", x.restore(), 3);
        edges.isAlike("at once", x, imaged());
    }

    private static void imageOfNothing() {
        edges.says(Edges.TERMS, "how many FILES there are (those that come since are gone by restore())");
        BurntLetters x = Due.under("222220;1");
        x.image();
        for (int letter = 0; letter < 5; letter++) {
            x.file(letter, letter);
        }
        x.burn(2);
        x.ashes(31);
        edges.is("restore()", x.restore(), 0);
        BurntLetters none = Due.under("222220;1");
        none.image();
        edges.isAlike("no files", x, none);
    }

    private static void imageOfFiveFiles() {
        edges.says(Edges.TERMS, "all that is told of them");
        Supplier<BurntLetters> made = () -> {
            BurntLetters x = Due.under("222220;1");
            for (int kind = 0; kind < 5; kind++) {
                x.file(kind, kind);
            }
            for (int file = 0; file < 5; file++) {
                x.point(file, (file + 1) % 5);
            }
            x.burn(0);
            for (int i = 0; i < 5; i++) {
                x.ashes(i % 2 == 0 ? NONE : 31);
            }
            x.image();
            return x;
        };
        BurntLetters x = made.get();
        for (int letter = 0; letter < 6; letter++) {
            x.burn(letter);
            x.burn(letter);
        }
        x.forget();
        x.restore();
        edges.isAlike("five files, five ashes", x, made.get());
    }

    private static void restoreLeavesTheRest() {
        edges.says(25, "It goes on from the IMAGE");
        BurntLetters x = Due.under("222220;9");
        x.image();
        Due.type(x, "12;");
        x.sure(FILE, 0, 0);
        x.moving(1);
        long before = x.digest();
        x.burn(0);
        x.restore();
        edges.is("the page, sure(), moving() and the laws stay", x.digest(), before);
        edges.is("count(6)", x.count(6), 3);
        edges.is("count(7)", x.count(7), 1);
        edges.is("count(8)", x.count(8), 1);
        edges.is("count(9)", x.count(9), 1);
    }

    private static void restoreNoneWasKept() {
        edges.says(25, "STATE: none was kept");
        edges.refused(STATE, "a new object", () -> new BurntLetters(), x -> x.restore());
        edges.refused(STATE, "no law", Edges::bare, x -> x.restore());
        edges.refused(STATE, "a law, no image", Edges.underLaw("222220;2", x -> {
            x.file(FILE, 0);
            x.burn(1);
        }), x -> x.restore());
    }

    private static void restoreAnotherLawSince() {
        edges.says(25, "or there is another LAW since");
        for (String law : new String[] {"111115;9", "900001;1"}) {
            Supplier<BurntLetters> made = () -> {
                BurntLetters x = imaged();
                Due.type(x, law);
                x.law();
                x.file(FILE, 0);
                return x;
            };
            edges.refused(STATE, "the law " + law, made, x -> x.restore());
            BurntLetters x = made.get();
            x.burn(5);
            edges.is("an image under it", x.image(), 1);
            x.burn(5);
            edges.is("restore()", x.restore(), 1);
            edges.is("count(1)", x.count(1), 1);
        }
        BurntLetters x = imaged();
        Due.type(x, "111115;0");
        edges.is("law() is refused", x.law(), STATE);
        x.burn(0);
        edges.is("and there is none since", x.restore(), 3);
    }

    private static void countRoom() {
        edges.says(26, "0 ROOM (0: no LAW)");
        edges.is("no law", Edges.bare().count(0), 0);
        for (int room = 1; room <= 9; room++) {
            edges.is("room " + room, Due.under("222220;" + room).count(0), room);
        }
    }

    private static void countFilesLivingLeaves() {
        edges.says(26, "1 FILES, 2 of them that LIVE, 3 LEAVES");
        BurntLetters x = Due.under("222220;9");
        for (int many = 0; many <= 5; many++) {
            for (int what = 1; what <= 3; what++) {
                edges.is("count(" + what + ") of " + many, x.count(what), many);
            }
            x.file(RUMOUR, many);
        }
        for (int file = 0; file < 5; file++) {
            for (int letter = 0; letter < 6; letter++) {
                x.copy(file, letter);
            }
        }
        edges.is("all leaves that there may be", x.count(3), 30);
        x = Due.under("222220;9");
        for (int letter = 0; letter < 5; letter++) {
            x.file(FILE, letter);
        }
        for (int dead = 1; dead <= 5; dead++) {
            x.burn(dead - 1);
            edges.is("count(1), " + dead + " dead", x.count(1), 5);
            edges.is("count(2), " + dead + " dead", x.count(2), 5 - dead);
            edges.is("count(3), " + dead + " dead", x.count(3), 5 - dead);
        }
    }

    private static void countYearsAndAshes() {
        edges.says(26, "4 YEARS, 5 YEARS of the ASHES");
        BurntLetters x = Due.under("222220;9");
        for (int many = 0; many <= 5; many++) {
            edges.is("count(4)", x.count(4), 2 * many);
            edges.is("count(5)", x.count(5), many);
            x.burn(0);
            x.burn(5);
            x.ashes(NONE);
        }
        edges.is("a sixth is refused", x.count(5), 5);
        x.forget();
        edges.is("forgotten", x.count(5), 0);
        edges.is("years stay", x.count(4), 12);
    }

    private static void countPageAndLaws() {
        edges.says(26, "6 letters of THE PAGE, 7 how often a LAW was read");
        BurntLetters x = new BurntLetters();
        for (int laws = 0; laws < 4; laws++) {
            edges.is("count(7)", x.count(7), laws);
            for (int letters = 0; letters < 8; letters++) {
                edges.is("count(6)", x.count(6), letters);
                x.law();
                x.letter("222220;1".charAt(letters));
            }
            edges.is("count(7), law() refused", x.count(7), laws);
            x.law();
        }
        Due.type(x, "0123456789;");
        edges.is("an eleventh is refused", x.count(6), 10);
    }

    private static void countSureAndMoving() {
        edges.says(26, "8 how often sure() was done, 9 moving()");
        BurntLetters x = Due.under("222220;9");
        for (int often = 0; often <= 31; often++) {
            edges.is("count(8)", x.count(8), Math.min(30, often));
            edges.is("count(9)", x.count(9), Math.min(10, often));
            x.sure(often % 2 == 0 ? FILE : RIVER, often % 5, often % 2);
            x.moving(1 + often % 9);
        }
    }

    private static void countOutside() {
        edges.says(26, "OUTSIDE");
        for (int what : new int[] {-1, 10, Integer.MIN_VALUE, Integer.MAX_VALUE}) {
            edges.refused(OUTSIDE, "count(" + what + ")", Edges::busy, x -> x.count(what));
            edges.refused(OUTSIDE, "no law, count(" + what + ")", Edges::bare, x -> x.count(what));
        }
    }

    private static long digestOf(List<Integer> numbers) {
        BigInteger h = BigInteger.valueOf(769);
        for (int number : numbers) {
            h = h.multiply(BigInteger.valueOf(31)).add(BigInteger.valueOf(number));
        }
        return h.longValue();
    }

    private static void digestOfANewObject() {
        edges.says(27, "h is 769, then for each of these numbers, in order, 31 times h, and it");
        List<Integer> numbers = new ArrayList<>();
        for (int i = 0; i < 12 + 1 + 10; i++) {
            numbers.add(0);
        }
        edges.is("two numbers of each letter, nowhere, ten counts", new BurntLetters().digest(), digestOf(numbers));
    }

    private static void digestWrapsAround() {
        edges.says(27, "as longs, wrapping");
        List<Integer> numbers = new ArrayList<>();
        for (int i = 0; i < 13; i++) {
            numbers.add(0);
        }
        BurntLetters x = new BurntLetters();
        for (int i = 0; i < 10; i++) {
            x.letter(126 - i);
            numbers.add(126 - i);
        }
        for (int what = 0; what < 10; what++) {
            numbers.add(what == 6 ? 10 : 0);
        }
        edges.is("a full page", x.digest(), digestOf(numbers));
    }

    /** All numbers as the other calls tell them. */
    private static List<Integer> numbersOf(BurntLetters x, String page) {
        List<Integer> numbers = new ArrayList<>();
        for (int letter = 0; letter < 6; letter++) {
            numbers.add(x.under(letter, 0));
            numbers.add(x.under(letter, 1));
        }
        for (int file = 0; file < x.count(1); file++) {
            for (int what = 0; what <= 5; what++) {
                numbers.add(x.about(file, what));
            }
            numbers.add(x.odds(file, 2, 0));
            numbers.add(x.odds(file, 2, 1));
            numbers.add(x.where(file, 2));
        }
        numbers.add(x.nowhere());
        if (x.count(0) > 0) {
            numbers.add(x.fits());
        }
        page.chars().forEach(numbers::add);
        for (int what = 0; what <= 9; what++) {
            numbers.add(x.count(what));
        }
        return numbers;
    }

    private static void digestOfEachNumber() {
        edges.says(27, "of each LETTER what under() tells for 0 and 1; of each FILE what about() tells for 0 to 5, what "
            + "odds() tells of 2 for both parts, WHERE for 2; NOWHERE; with a LAW FITS; letters of THE PAGE; what "
            + "count() tells for 0 to 9");
        BurntLetters x = Edges.bare();
        edges.is("no law, no fits", x.digest(), digestOf(numbersOf(x, "12;")));
        x = Due.under("222220;9");
        edges.is("a law, no files", x.digest(), digestOf(numbersOf(x, "")));
        x = Edges.busy();
        edges.is("something of everything", x.digest(), digestOf(numbersOf(x, "12")));
        x = imaged();
        edges.is("ashes", x.digest(), digestOf(numbersOf(x, "")));
        for (int i = 0; i < 5; i++) {
            x.file(RUMOUR, i);
            x.burn(i);
            edges.is("a file more, and a year", x.digest(), digestOf(numbersOf(x, "")));
        }
    }

    private static void digestTellsOnly() {
        edges.says(27, "in order");
        BurntLetters x = Edges.busy();
        long first = x.digest();
        edges.is("again", x.digest(), first);
        edges.isAlike("digest() changes nothing", x, Edges.busy());
        BurntLetters y = Edges.bare();
        y.digest();
        edges.isAlike("no law, digest() changes nothing", y, Edges.bare());
    }

    private static void fiveHundredAndTwelveCalls() {
        edges.says(Edges.TERMS, "An object is used for at most 512 calls after it has been made");
        BurntLetters x = new BurntLetters();
        Due.type(x, "222220;9");
        x.law();
        x.file(RUMOUR, 5);
        for (int call = 11; call < 512; call++) {
            x.burn(0);
        }
        edges.is("the 512th call", x.count(4), 501);
        x = new BurntLetters();
        for (int round = 0; round < 56; round++) {
            Due.type(x, "900001;1");
            edges.is("law " + round, x.law(), 1);
        }
        edges.is("laws read", x.count(7), 56);
    }
}
