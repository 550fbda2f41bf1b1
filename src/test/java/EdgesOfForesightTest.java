import java.io.IOException;
import java.util.function.Consumer;
import java.util.function.Supplier;

/** The edges of promises 14 to 18: what would be. */
public final class EdgesOfForesightTest {
    private static final int NONE = Edges.NONE, UNKNOWN = Edges.UNKNOWN, OUTSIDE = Edges.OUTSIDE, STATE = Edges.STATE;
    private static final int FILE = 0, RUMOUR = 1, DEED = 2, RIVER = 3, FLOOD = 4;
    /** Edges.busy() has the files 0 to 3. */
    private static final int[] NO_FILES = {-1, 4, Integer.MIN_VALUE, Integer.MAX_VALUE};
    private static final int[] NO_YEARS = {-1, 5, Integer.MIN_VALUE, Integer.MAX_VALUE};
    private static final int[] NO_PARTS = {-1, 2, Integer.MIN_VALUE, Integer.MAX_VALUE};
    private static Edges edges;

    public static void main(String[] args) throws IOException {
        edges = new Edges();
        oddsOfNoughtToFourYears();
        oddsInLowestTerms();
        oddsByKeeping();
        oddsOfTheDead();
        oddsRefusals();
        whereTheLeastOfLikeOnes();
        whereTheGreatest();
        whereOthersTakeTheRoom();
        whereThereMayBeNone();
        whereNoneMakesThemGreater();
        whereByTheNextLetter();
        whereRefusals();
        sureForEachNumberOfYears();
        sureOneToItsNames();
        sureWhateverElse();
        sureOutside();
        sureState();
        sureRefusalsInOrder();
        nowhereBits();
        nowhereBothHalves();
        movingNoughtToThree();
        movingOneToNine();
        movingPlaceForAll();
        movingWithinRoom();
        movingOutside();
        movingState();
        movingRefusalsInOrder();
        edges.end(14, 18);
    }

    private static Supplier<BurntLetters> law(String text, Consumer<BurntLetters> more) {
        return Edges.underLaw(text, more);
    }

    private static void oddsAre(Supplier<BurntLetters> made, int file, int years, int above, int below) {
        edges.tells(above, "odds(" + file + ", " + years + ", 0)", made, x -> x.odds(file, years, 0));
        edges.tells(below, "odds(" + file + ", " + years + ", 1)", made, x -> x.odds(file, years, 1));
    }

    private static void oddsOfNoughtToFourYears() {
        edges.says(Edges.TERMS, "ODDS of a FILE for so many YEARS (0 to 4), LOTS as told, each YEAR for itself");
        int[][] sevenTenths = {{1, 1}, {7, 10}, {49, 100}, {343, 1000}, {2401, 10000}};
        int[][] oneTenth = {{1, 1}, {1, 10}, {1, 100}, {1, 1000}, {1, 10000}};
        int[][] nineTenths = {{1, 1}, {9, 10}, {81, 100}, {729, 1000}, {6561, 10000}};
        for (int years = 0; years <= 4; years++) {
            oddsAre(law("370000;1", x -> x.file(FILE, 0)), 0, years, sevenTenths[years][0], sevenTenths[years][1]);
            oddsAre(law("100009;1", x -> x.file(FILE, 5)), 0, years, oneTenth[years][0], oneTenth[years][1]);
            oddsAre(law("100009;1", x -> x.file(FILE, 0)), 0, years, nineTenths[years][0], nineTenths[years][1]);
            oddsAre(law("100009;1", x -> x.file(FILE, 3)), 0, years, 1, 1);
        }
    }

    private static void oddsInLowestTerms() {
        edges.says(14, "ODDS, in lowest terms: part 0 above, 1 below");
        int[][] half = {{1, 1}, {1, 2}, {1, 4}, {1, 8}, {1, 16}};
        int[][] fourFifths = {{1, 1}, {4, 5}, {16, 25}, {64, 125}, {256, 625}};
        int[][] twoFifths = {{1, 1}, {2, 5}, {4, 25}, {8, 125}, {16, 625}};
        for (int years = 0; years <= 4; years++) {
            oddsAre(law("500005;1", x -> x.file(FILE, 0)), 0, years, half[years][0], half[years][1]);
            oddsAre(law("222220;1", x -> x.file(FILE, 4)), 0, years, fourFifths[years][0], fourFifths[years][1]);
            oddsAre(law("022600;1", x -> x.file(FILE, 3)), 0, years, twoFifths[years][0], twoFifths[years][1]);
        }
    }

    private static void oddsByKeeping() {
        edges.says(Edges.TERMS, "how likely it LIVES then");
        Supplier<BurntLetters> deed = law("500005;9", x -> {
            x.file(DEED, 0);
            x.file(FILE, 1);
            x.point(1, 0);
        });
        oddsAre(deed, 0, 2, 1, 1);
        oddsAre(deed, 0, 3, 7, 8);
        oddsAre(deed, 0, 4, 11, 16);
        // Behind 0, 0 and behind 5, 0 it is dead: in the second row what points to it burnt first.
        oddsAre(law("500005;9", x -> {
            x.file(FILE, 0);
            x.file(FILE, 5);
            x.point(1, 0);
        }), 0, 2, 1, 2);
        // What points to it burns with it, and still keeps it.
        oddsAre(law("500005;9", x -> {
            x.file(FILE, 0);
            x.file(FILE, 0);
            x.point(1, 0);
        }), 0, 2, 3, 4);
        Supplier<BurntLetters> rumour = law("550000;9", x -> x.file(RUMOUR, 0));
        for (int years = 1; years <= 4; years++) {
            oddsAre(rumour, 0, years, 1, 2);
        }
    }

    private static void oddsOfTheDead() {
        edges.says(14, "ODDS, in lowest terms");
        for (int years = 0; years <= 4; years++) {
            oddsAre(Edges::busy, 0, years, 0, 1);
        }
    }

    private static void oddsRefusals() {
        edges.says(14, "UNKNOWN; OUTSIDE: years, part");
        for (int file : NO_FILES) {
            edges.refused(UNKNOWN, "odds(" + file + ", 0, 0)", Edges::busy, x -> x.odds(file, 0, 0));
            edges.refused(UNKNOWN, "odds(" + file + ", 5, 0)", Edges::busy, x -> x.odds(file, 5, 0));
            edges.refused(UNKNOWN, "odds(" + file + ", 0, 2)", Edges::busy, x -> x.odds(file, 0, 2));
        }
        edges.refused(UNKNOWN, "no law, odds(0, 0, 0)", Edges::bare, x -> x.odds(0, 0, 0));
        for (int years : NO_YEARS) {
            edges.refused(OUTSIDE, "odds(3, " + years + ", 0)", Edges::busy, x -> x.odds(3, years, 0));
            edges.refused(OUTSIDE, "of a dead one, odds(0, " + years + ", 0)", Edges::busy, x -> x.odds(0, years, 0));
        }
        for (int part : NO_PARTS) {
            edges.refused(OUTSIDE, "odds(3, 4, " + part + ")", Edges::busy, x -> x.odds(3, 4, part));
        }
    }

    private static void whereIs(int due, int file, int years, Supplier<BurntLetters> made) {
        edges.tells(due, "where(" + file + ", " + years + ")", made, x -> x.where(file, years));
    }

    private static void whereTheLeastOfLikeOnes() {
        edges.says(Edges.TERMS, "of like ones the least");
        whereIs(1, 0, 1, law("222220;1", x -> x.file(FILE, 0)));
        whereIs(0, 0, 1, law("222220;1", x -> x.file(FILE, 4)));
        whereIs(1, 0, 4, law("500005;1", x -> x.file(FILE, 0)));
        whereIs(2, 0, 3, law("550000;1", x -> x.file(FILE, 0)));
    }

    private static void whereTheGreatest() {
        edges.says(Edges.TERMS, "the LETTER under which a COPY of it, as it may be, would make ODDS greatest");
        whereIs(5, 0, 2, law("222220;1", x -> x.file(FILE, 0)));
        whereIs(0, 0, 2, law("055000;1", x -> x.file(FILE, 1)));
        // Under 5 there is no room; of the others that which burns most seldom.
        whereIs(3, 0, 2, law("432100;1", x -> {
            x.file(FILE, 0);
            x.file(FILE, 4);
            x.copy(1, 5);
        }));
        whereIs(4, 0, 2, law("432100;2", x -> {
            x.file(FILE, 0);
            x.file(FILE, 4);
            x.copy(1, 5);
        }));
    }

    /** Room 1: what the rumours 0 and 1 take, and whether 1 is kept, is a matter of how likely 2 is left. */
    private static void whereOthersTakeTheRoom() {
        edges.says(Edges.TERMS, "under the least LETTER where it has none and there is ROOM, if there is one");
        Supplier<BurntLetters> three = law("333100;1", x -> {
            x.file(RUMOUR, 0);
            x.file(RUMOUR, 1);
            x.file(RUMOUR, 3);
            x.copy(2, 2);
            x.point(0, 1);
        });
        whereIs(4, 2, 3, three);
    }

    private static void whereThereMayBeNone() {
        edges.says(15, "WHERE; NONE");
        whereIs(NONE, 0, 4, Edges::busy);
        whereIs(NONE, 0, 4, law("222220;9", x -> {
            x.file(FILE, 0);
            x.copy(0, 1);
        }));
        whereIs(2, 0, 4, law("550000;9", x -> {
            x.file(RIVER, 0);
            x.copy(0, 1);
        }));
        whereIs(NONE, 0, 4, law("550000;9", x -> {
            x.file(RIVER, 0);
            x.copy(0, 1);
            x.copy(0, 2);
        }));
        Consumer<BurntLetters> allButFive = x -> {
            x.file(FILE, 0);
            x.file(FILE, 1);
            x.copy(1, 2);
            x.file(FILE, 3);
            x.copy(2, 4);
        };
        whereIs(5, 0, 1, law("222220;1", allButFive));
        whereIs(NONE, 0, 1, law("222220;1", allButFive.andThen(x -> x.file(FILE, 5))));
        whereIs(1, 0, 1, law("222220;2", allButFive.andThen(x -> x.file(FILE, 5))));
    }

    private static void whereNoneMakesThemGreater() {
        edges.says(Edges.TERMS, "none, if there may be none, or none makes them greater");
        for (int letter = 0; letter < 6; letter++) {
            int its = letter;
            whereIs(NONE, 0, 0, law("222220;9", x -> x.file(FILE, its)));
        }
        for (int years = 0; years <= 4; years++) {
            whereIs(NONE, 0, years, law("222220;9", x -> x.file(FILE, 5)));
        }
        Supplier<BurntLetters> kept = law("500005;9", x -> {
            x.file(FILE, 0);
            x.file(FILE, 1);
            x.point(1, 0);
        });
        whereIs(NONE, 0, 1, kept);
        whereIs(1, 0, 2, kept);
        // Room is beside the flood's leaf alone, where one fire takes both or the first is taken as before.
        whereIs(NONE, 0, 1, law("222220;1", x -> {
            x.file(FLOOD, 1);
            x.file(FILE, 3);
            x.copy(1, 4);
            x.file(FILE, 5);
        }));
    }

    private static void whereByTheNextLetter() {
        edges.says(Edges.TERMS, "the next LETTER (behind 5: 0)");
        whereIs(1, 0, 1, law("222022;9", x -> x.file(FLOOD, 5)));
        whereIs(2, 0, 1, law("222022;9", x -> x.file(FLOOD, 0)));
        whereIs(0, 0, 1, law("222022;9", x -> x.file(FLOOD, 4)));
        whereIs(0, 0, 1, law("222022;9", x -> x.file(RIVER, 5)));
    }

    private static void whereRefusals() {
        edges.says(15, "UNKNOWN; OUTSIDE: years");
        for (int file : NO_FILES) {
            edges.refused(UNKNOWN, "where(" + file + ", 0)", Edges::busy, x -> x.where(file, 0));
            edges.refused(UNKNOWN, "where(" + file + ", 5)", Edges::busy, x -> x.where(file, 5));
        }
        edges.refused(UNKNOWN, "no law, where(0, 0)", Edges::bare, x -> x.where(0, 0));
        for (int years : NO_YEARS) {
            edges.refused(OUTSIDE, "where(3, " + years + ")", Edges::busy, x -> x.where(3, years));
            edges.refused(OUTSIDE, "of a dead one, where(0, " + years + ")", Edges::busy, x -> x.where(0, years));
        }
    }

    private static void sureIs(BurntLetters x, int kind, int years, int few, int set) {
        edges.is("sure(" + kind + ", " + years + ", 0)", x.sure(kind, years, 0), few);
        edges.is("sure(" + kind + ", " + years + ", 1)", x.sure(kind, years, 1), set);
    }

    private static void sureForEachNumberOfYears() {
        edges.says(16, "0 how few, 1 which, as bits; NONE");
        BurntLetters all = Due.under("111115;1");
        int[][] file = {{1, 1}, {2, 3}, {NONE, NONE}, {NONE, NONE}, {NONE, NONE}};
        int[][] river = {{1, 1}, {2, 3}, {3, 7}, {NONE, NONE}, {NONE, NONE}};
        int[][] flood = {{1, 1}, {2, 5}, {3, 21}, {NONE, NONE}, {NONE, NONE}};
        for (int years = 0; years <= 4; years++) {
            sureIs(all, FILE, years, file[years][0], file[years][1]);
            sureIs(all, RIVER, years, river[years][0], river[years][1]);
            sureIs(all, FLOOD, years, flood[years][0], flood[years][1]);
        }
        edges.is("NONE is an answer, too, all are counted", all.count(8), 30);
        edges.is("the next one", all.sure(FILE, 0, 0), STATE);
    }

    private static void sureOneToItsNames() {
        edges.says(Edges.TERMS, "of all sets of LETTERS by which it has the fewest, of like ones the least bits");
        for (int safe = 0; safe < 6; safe++) {
            StringBuilder lots = new StringBuilder("222222");
            lots.setCharAt(safe, '0');
            BurntLetters x = Due.under(lots + ";1");
            sureIs(x, FILE, 0, 1, 1);
            for (int years = 1; years <= 4; years++) {
                sureIs(x, FILE, years, 1, 1 << safe);
                sureIs(x, FLOOD, years, 1, 1 << safe);
            }
        }
        BurntLetters x = Due.under("500005;1");
        sureIs(x, FILE, 4, 1, 2);
        sureIs(x, FLOOD, 4, 1, 2);
    }

    private static void sureWhateverElse() {
        edges.says(Edges.TERMS, "whatever ROOM; nobody POINTS to it");
        BurntLetters x = Due.under("111115;1");
        for (int letter = 0; letter < 5; letter++) {
            x.file(FILE, letter);
            x.point(letter, (letter + 1) % 5);
        }
        x.copy(0, 5);
        sureIs(x, FILE, 1, 2, 3);
        sureIs(x, FLOOD, 2, 3, 21);
        sureIs(x, RIVER, 3, NONE, NONE);
        edges.is("count(1)", x.count(1), 5);
        edges.is("count(3)", x.count(3), 6);
        edges.is("count(4)", x.count(4), 0);
    }

    private static void sureOutside() {
        edges.says(16, "OUTSIDE: kind (0, 3, 4), years, what");
        for (int kind : new int[] {-1, RUMOUR, DEED, 5, Integer.MIN_VALUE, Integer.MAX_VALUE}) {
            edges.refused(OUTSIDE, "sure(" + kind + ", 0, 0)", Edges::busy, x -> x.sure(kind, 0, 0));
        }
        for (int years : NO_YEARS) {
            edges.refused(OUTSIDE, "sure(3, " + years + ", 0)", Edges::busy, x -> x.sure(RIVER, years, 0));
        }
        for (int what : NO_PARTS) {
            edges.refused(OUTSIDE, "sure(4, 4, " + what + ")", Edges::busy, x -> x.sure(FLOOD, 4, what));
        }
    }

    private static BurntLetters sureDone(int times) {
        BurntLetters x = Due.under("111115;1");
        x.file(FILE, 0);
        for (int i = 0; i < times; i++) {
            x.sure(FILE, 0, 0);
        }
        return x;
    }

    private static void sureState() {
        edges.says(16, "STATE: no LAW, or sure() was done 30 times");
        for (int kind : new int[] {FILE, RIVER, FLOOD}) {
            edges.refused(STATE, "no law, sure(" + kind + ", 0, 0)", Edges::bare, x -> x.sure(kind, 0, 0));
        }
        edges.is("the thirtieth", sureDone(29).sure(FILE, 0, 0), 1);
        edges.refused(STATE, "the one behind it", () -> sureDone(30), x -> x.sure(FILE, 0, 0));
        BurntLetters x = sureDone(29);
        x.sure(RUMOUR, 0, 0);
        x.sure(FILE, 5, 0);
        edges.is("refused ones are not done", x.count(8), 29);
        edges.is("the thirtieth still", x.sure(FILE, 0, 1), 1);
        edges.is("count(8)", x.count(8), 30);
        x.image();
        x.restore();
        edges.is("an image does not set it back", x.sure(FILE, 0, 1), STATE);
        Due.type(x, "222220;1");
        x.law();
        edges.is("nor does another law", x.sure(FILE, 0, 1), STATE);
        edges.is("moving() is another thing", x.moving(1), 0);
    }

    private static void sureRefusalsInOrder() {
        edges.says(16, "OUTSIDE: kind (0, 3, 4), years, what; STATE: no LAW, or sure() was done 30 times");
        edges.refused(OUTSIDE, "kind ahead of no law", Edges::bare, x -> x.sure(RUMOUR, 0, 0));
        edges.refused(OUTSIDE, "years ahead of no law", Edges::bare, x -> x.sure(FILE, 5, 0));
        edges.refused(OUTSIDE, "what ahead of no law", Edges::bare, x -> x.sure(FILE, 0, 2));
        edges.refused(OUTSIDE, "kind ahead of 30 times", () -> sureDone(30), x -> x.sure(DEED, 0, 0));
        edges.refused(OUTSIDE, "years ahead of 30 times", () -> sureDone(30), x -> x.sure(FILE, -1, 0));
        edges.refused(OUTSIDE, "what ahead of 30 times", () -> sureDone(30), x -> x.sure(FILE, 0, -1));
    }

    private static void nowhereBits() {
        edges.says(17, "NOWHERE, as bits");
        edges.tells(0, "no law", Edges::bare, x -> x.nowhere());
        edges.tells(0, "no files", law("222220;9", x -> { }), x -> x.nowhere());
        edges.tells(4, "the flood", Edges::busy, x -> x.nowhere());
        edges.tells(30, "all but one", law("222220;9", x -> {
            x.file(FILE, 0);
            for (int file = 1; file < 5; file++) {
                x.file(RIVER, 1);
            }
            x.burn(0);
            for (int file = 1; file < 5; file++) {
                x.point(file, 0);
            }
        }), x -> x.nowhere());
        edges.tells(15, "all but the last", law("222220;9", x -> {
            for (int file = 0; file < 5; file++) {
                x.file(FILE, file == 4 ? 5 : 0);
            }
            x.burn(5);
            for (int file = 0; file < 4; file++) {
                x.point(file, 4);
            }
        }), x -> x.nowhere());
    }

    private static void nowhereBothHalves() {
        edges.says(Edges.TERMS, "all FILES that LIVE and POINT to one that does not");
        BurntLetters x = Due.under("222220;9");
        x.file(FILE, 0);
        x.file(FILE, 1);
        x.point(0, 1);
        edges.is("both live", x.nowhere(), 0);
        x.burn(1);
        edges.is("it is kept", x.nowhere(), 0);
        x.burn(1);
        edges.is("it is dead", x.nowhere(), 1);
        x.point(0, NONE);
        edges.is("to none", x.nowhere(), 0);
        x.point(0, 1);
        edges.is("to the dead one again", x.nowhere(), 1);
        x.burn(0);
        edges.is("both are dead", x.nowhere(), 0);
        x.image();
        x.file(FILE, 2);
        x.point(2, 0);
        edges.is("a new one", x.nowhere(), 4);
        x.restore();
        edges.is("gone by restore()", x.nowhere(), 0);
    }

    private static BurntLetters filesUnder(String law, int... letters) {
        BurntLetters x = Due.under(law);
        for (int letter : letters) {
            x.file(FILE, letter);
        }
        return x;
    }

    private static void movingNoughtToThree() {
        edges.says(Edges.TERMS, "the fewest RENAMINGS (0 to 3; as they may be one behind the other)");
        edges.is("five under one, 5 each", filesUnder("222220;9", 0, 0, 0, 0, 0).moving(5), 0);
        edges.is("five under one, 4 each", filesUnder("222220;9", 0, 0, 0, 0, 0).moving(4), 1);
        edges.is("five under one, 3 each", filesUnder("222220;9", 0, 0, 0, 0, 0).moving(3), 2);
        edges.is("five under one, 2 each", filesUnder("222220;9", 0, 0, 0, 0, 0).moving(2), 3);
        edges.is("five under one, 1 each", filesUnder("222220;9", 0, 0, 0, 0, 0).moving(1), NONE);
        edges.is("four under one, 1 each", filesUnder("222220;9", 5, 5, 5, 5).moving(1), 3);
        edges.is("three and two, 1 each", filesUnder("222220;9", 0, 0, 0, 5, 5).moving(1), 3);
        edges.is("two and two, 1 each", filesUnder("222220;9", 1, 1, 5, 5).moving(1), 2);
        edges.is("each under its own", filesUnder("222220;9", 0, 1, 2, 3, 4).moving(1), 0);
        edges.is("none", filesUnder("222220;9").moving(1), 0);
        BurntLetters kept = filesUnder("222220;9", 0, 1, 2);
        kept.point(0, 1);
        kept.point(1, 2);
        kept.point(2, 0);
        for (int letter = 0; letter < 3; letter++) {
            kept.burn(letter);
        }
        edges.is("each under its own, and kept", kept.moving(1), 0);
    }

    private static void movingOneToNine() {
        edges.says(Edges.TERMS, "by which no LETTER has more than so many LEAVES (1 to 9)");
        for (int leaves = 1; leaves <= 9; leaves++) {
            BurntLetters x = filesUnder("222220;9", 3, 3);
            edges.is("two under one, moving(" + leaves + ")", x.moving(leaves), leaves == 1 ? 1 : 0);
            edges.is("nothing is moved", x.under(3, 1), 2);
            edges.is("count(9)", x.count(9), 1);
        }
    }

    private static BurntLetters rumourEverywhere(String law) {
        BurntLetters x = Due.under(law);
        x.file(RUMOUR, 0);
        for (int letter = 1; letter < 6; letter++) {
            x.copy(0, letter);
        }
        return x;
    }

    private static void movingPlaceForAll() {
        edges.says(18, "MOVING; NONE: not by 3");
        edges.is("six leaves, six letters", rumourEverywhere("222220;9").moving(1), 0);
        BurntLetters x = rumourEverywhere("222220;9");
        x.file(FILE, 0);
        edges.is("seven leaves, six letters", x.moving(1), NONE);
        edges.is("but 2 each", x.moving(2), 0);
        x.file(FILE, 0);
        edges.is("eight, 2 each", x.moving(2), 1);
    }

    private static void movingWithinRoom() {
        edges.says(Edges.TERMS, "as they may be");
        edges.is("room 1", filesUnder("222220;1", 0, 1, 2).moving(1), 0);
        edges.is("room 2", filesUnder("222220;2", 0, 0, 1, 1, 2).moving(1), 2);
        BurntLetters x = filesUnder("222220;2", 0, 0, 1);
        x.copy(0, 1);
        x.copy(1, 2);
        x.copy(2, 2);
        // Two each under 0, 1 and 2: one of each goes to 3, 4 and 5.
        edges.is("room 2, three are full", x.moving(1), 3);
    }

    private static void movingOutside() {
        edges.says(18, "OUTSIDE: leaves (1 to 9)");
        for (int leaves : new int[] {0, 10, -1, Integer.MIN_VALUE, Integer.MAX_VALUE}) {
            edges.refused(OUTSIDE, "moving(" + leaves + ")", Edges::busy, x -> x.moving(leaves));
        }
    }

    private static BurntLetters movingDone(int times) {
        BurntLetters x = filesUnder("222220;9", 0, 0);
        for (int i = 0; i < times; i++) {
            x.moving(1);
        }
        return x;
    }

    private static void movingState() {
        edges.says(18, "STATE: no LAW, or moving() was done 10 times");
        edges.refused(STATE, "no law, moving(1)", Edges::bare, x -> x.moving(1));
        edges.refused(STATE, "no law, moving(9)", Edges::bare, x -> x.moving(9));
        edges.is("the tenth", movingDone(9).moving(1), 1);
        edges.refused(STATE, "the one behind it", () -> movingDone(10), x -> x.moving(1));
        BurntLetters x = movingDone(9);
        x.moving(0);
        x.moving(10);
        edges.is("refused ones are not done", x.count(9), 9);
        edges.is("the tenth still", x.moving(9), 0);
        edges.is("count(9)", x.count(9), 10);
        x.image();
        x.restore();
        edges.is("an image does not set it back", x.moving(1), STATE);
        Due.type(x, "222220;1");
        x.law();
        edges.is("nor does another law", x.moving(1), STATE);
        edges.is("sure() is another thing", x.sure(FILE, 0, 0), 1);
        x = filesUnder("222220;9", 0, 0, 0, 0, 0);
        for (int i = 0; i < 10; i++) {
            edges.is("NONE is an answer, too", x.moving(1), NONE);
        }
        edges.is("and is counted", x.moving(1), STATE);
    }

    private static void movingRefusalsInOrder() {
        edges.says(18, "OUTSIDE: leaves (1 to 9); STATE: no LAW, or moving() was done 10 times");
        edges.refused(OUTSIDE, "leaves ahead of no law", Edges::bare, x -> x.moving(0));
        edges.refused(OUTSIDE, "leaves ahead of no law", Edges::bare, x -> x.moving(10));
        edges.refused(OUTSIDE, "leaves ahead of 10 times", () -> movingDone(10), x -> x.moving(0));
        edges.refused(OUTSIDE, "leaves ahead of 10 times", () -> movingDone(10), x -> x.moving(10));
    }
}
