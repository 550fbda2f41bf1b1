import java.io.IOException;
import java.util.Arrays;
import java.util.function.Consumer;
import java.util.function.Supplier;

/** The edges of promises 19 to 23: ashes, and years by a seed. */
public final class EdgesOfAshesTest {
    private static final int NONE = Edges.NONE, UNKNOWN = Edges.UNKNOWN, OUTSIDE = Edges.OUTSIDE,
        STATE = Edges.STATE, FULL = Edges.FULL;
    private static final int FILE = 0, RUMOUR = 1, DEED = 2, FLOOD = 4;
    private static Edges edges;

    public static void main(String[] args) throws IOException {
        edges = new Edges();
        ashesTell();
        ashesOutside();
        ashesFull();
        ashesRefusalsInOrder();
        forgetTells();
        fitsOfNothingTold();
        fitsByLotsAboveNought();
        fitsAllThatIsTold();
        fitsFromNowOn();
        fitsByKeeping();
        fitsByGrowing();
        fitsState();
        burntIsTheSame();
        burntIsNot();
        burntOfNoRows();
        burntUnknown();
        burntState();
        seedsWrapAround();
        drawsByTenths();
        yearsAsTheyWouldBe();
        yearsOutside();
        yearsState();
        edges.end(19, 23);
    }

    private static Supplier<BurntLetters> law(String text, Consumer<BurntLetters> more) {
        return Edges.underLaw(text, more);
    }

    /** One FILE under each of the first letters. */
    private static BurntLetters files(String law, int many) {
        BurntLetters x = Due.under(law);
        for (int letter = 0; letter < many; letter++) {
            x.file(FILE, letter);
        }
        return x;
    }

    private static BurntLetters told(String law, int many, int... sets) {
        BurntLetters x = files(law, many);
        for (int set : sets) {
            x.ashes(set);
        }
        return x;
    }

    private static void ashesTell() {
        edges.says(19, "Which FILES LIVE behind the next YEAR of the ASHES (NONE: nothing is told): how many YEARS");
        BurntLetters x = files("222220;9", 2);
        int[] sets = {NONE, 0, 3, 1, 2};
        for (int many = 1; many <= 5; many++) {
            edges.is("ashes(" + sets[many - 1] + ")", x.ashes(sets[many - 1]), many);
            edges.is("count(5)", x.count(5), many);
        }
        edges.is("they are no years gone", x.count(4), 0);
        x = new BurntLetters();
        edges.is("no law, ashes(NONE)", x.ashes(NONE), 1);
        edges.is("no law, ashes(0)", x.ashes(0), 2);
        x = files("222220;9", 2);
        x.burn(0);
        edges.is("a file that is dead", x.ashes(1), 1);
    }

    private static void ashesOutside() {
        edges.says(19, "OUTSIDE: set (NONE, or bits of FILES)");
        for (int many = 0; many <= 5; many++) {
            int files = many;
            edges.is(many + " files, NONE", files("222220;9", many).ashes(NONE), 1);
            for (int set = 0; set < 1 << many; set++) {
                edges.is(many + " files, ashes(" + set + ")", files("222220;9", many).ashes(set), 1);
            }
            for (int set : new int[] {-2, 1 << many, (1 << many) + 1, 32, 33, 64, Integer.MIN_VALUE,
                Integer.MAX_VALUE}) {
                if (set < 0 || set >= 1 << many) {
                    edges.refused(OUTSIDE, many + " files, ashes(" + set + ")", () -> files("222220;9", files),
                        x -> x.ashes(set));
                }
            }
        }
        edges.refused(OUTSIDE, "no law, ashes(1)", Edges::bare, x -> x.ashes(1));
        edges.refused(OUTSIDE, "a file that is gone by restore()", Edges.busyThen(x -> x.restore()), x -> x.ashes(4));
    }

    private static void ashesFull() {
        edges.says(19, "FULL");
        Supplier<BurntLetters> five = () -> told("222220;9", 2, NONE, 3, NONE, 3, NONE);
        for (int set = NONE; set <= 3; set++) {
            int sixth = set;
            edges.refused(FULL, "a sixth, ashes(" + set + ")", five, x -> x.ashes(sixth));
        }
        BurntLetters x = five.get();
        x.ashes(3);
        x.forget();
        edges.is("behind forget()", x.ashes(3), 1);
    }

    private static void ashesRefusalsInOrder() {
        edges.says(19, "OUTSIDE: set (NONE, or bits of FILES); FULL");
        Supplier<BurntLetters> five = () -> told("222220;9", 2, NONE, 3, NONE, 3, NONE);
        edges.refused(OUTSIDE, "set 4 ahead of full", five, x -> x.ashes(4));
        edges.refused(OUTSIDE, "set -2 ahead of full", five, x -> x.ashes(-2));
    }

    private static void forgetTells() {
        edges.says(20, "The ASHES are empty: how many YEARS they had");
        for (int many = 0; many <= 5; many++) {
            BurntLetters x = files("222220;9", 2);
            for (int i = 0; i < many; i++) {
                x.ashes(i % 2 == 0 ? 0 : NONE);
            }
            edges.is("forget() of " + many, x.forget(), many);
            edges.isAlike("all else is as it was", x, files("222220;9", 2));
            edges.is("forget() again", x.forget(), 0);
        }
        BurntLetters x = told("222220;9", 2, 0, 0);
        x.forget();
        x.ashes(NONE);
        edges.is("what was told is gone", x.fits(), 5);
    }

    private static void fitsAre(int due, Supplier<BurntLetters> made) {
        edges.tells(due, "fits()", made, x -> x.fits());
    }

    private static void fitsOfNothingTold() {
        edges.says(21, "FITS");
        int two = 1;
        int six = 1;
        int[] sets = {};
        for (int many = 0; many <= 5; many++) {
            int[] now = sets;
            fitsAre(two, () -> told("190000;9", 2, now));
            fitsAre(six, () -> told("111115;9", 2, now));
            two *= 2;
            six *= 6;
            sets = Arrays.copyOf(sets, many + 1);
            sets[many] = NONE;
        }
    }

    private static void fitsByLotsAboveNought() {
        edges.says(Edges.TERMS, "how many rows of LETTERS (each with LOTS above 0), one for each YEAR");
        fitsAre(1, () -> told("900001;9", 1, 0));
        fitsAre(1, () -> told("900001;9", 1, 1));
        fitsAre(0, () -> told("090001;9", 1, 0));
        fitsAre(2, () -> told("090001;9", 1, 1));
        fitsAre(5, () -> told("111115;9", 1, 1));
        fitsAre(4, () -> told("111115;9", 2, 3));
        fitsAre(1, () -> told("111115;9", 5, 31));
        fitsAre(0, () -> told("222220;9", 5, 31));
    }

    private static void fitsAllThatIsTold() {
        edges.says(Edges.TERMS, "would make all that is told so, if they burnt");
        fitsAre(1, () -> told("111115;9", 2, 1));
        fitsAre(1, () -> told("111115;9", 2, 2));
        fitsAre(0, () -> told("111115;9", 2, 0));
        fitsAre(2, () -> told("111115;9", 2, NONE, 0));
        fitsAre(1, () -> told("111115;9", 2, 1, 0));
        fitsAre(0, () -> told("111115;9", 2, 1, 2));
        fitsAre(0, () -> told("111115;9", 2, 1, 3));
        fitsAre(31, () -> told("550000;9", 1, NONE, NONE, NONE, NONE, 0));
        fitsAre(1, () -> told("550000;9", 1, NONE, NONE, NONE, NONE, 1));
        fitsAre(1, () -> told("550000;9", 1, 1, 1, 1, 1, 0));
        fitsAre(16, () -> told("550000;9", 1, 0, NONE, NONE, NONE, NONE));
        fitsAre(0, () -> told("550000;9", 1, 1, 1, 0, 1, NONE));
        fitsAre(7776, () -> told("111115;9", 0, 0, 0, 0, 0, 0));
    }

    private static void fitsFromNowOn() {
        edges.says(Edges.TERMS, "a row of YEARS from now on (5 at most)");
        BurntLetters x = told("550000;9", 2, 1);
        edges.is("letter 1 next", x.fits(), 1);
        x.burn(1);
        edges.is("it burnt, and letter 1 is next again", x.fits(), 1);
        edges.is("the ashes stay", x.count(5), 1);
        x.burn(0);
        edges.is("none lives now", x.fits(), 0);
        x = told("550000;9", 1, 1);
        x.file(FILE, 2);
        edges.is("a file since, which lives, too", x.fits(), 0);
        x.burn(0);
        edges.is("no row brings back the first", x.fits(), 0);
    }

    private static void fitsByKeeping() {
        edges.says(Edges.TERMS, "which FILES LIVE behind it, as bits, or nothing (NONE)");
        Consumer<BurntLetters> pointed = x -> {
            x.file(FILE, 0);
            x.file(FILE, 2);
            x.point(1, 0);
        };
        fitsAre(2, law("550000;9", pointed.andThen(x -> x.ashes(3))));
        fitsAre(0, law("550000;9", pointed.andThen(x -> x.ashes(2))));
        fitsAre(1, law("550000;9", pointed.andThen(x -> x.ashes(NONE)).andThen(x -> x.ashes(2))));
        fitsAre(3, law("550000;9", pointed.andThen(x -> x.ashes(NONE)).andThen(x -> x.ashes(3))));
        fitsAre(0, law("550000;9", pointed.andThen(x -> x.point(1, NONE)).andThen(x -> x.ashes(1))));
        // A deed that has been kept twice is burnt the third time.
        fitsAre(1, law("550000;9", x -> {
            x.file(DEED, 0);
            x.file(FILE, 2);
            x.point(1, 0);
            x.burn(0);
            x.burn(0);
            x.ashes(2);
        }));
    }

    private static void fitsByGrowing() {
        edges.says(Edges.TERMS, "would make all that is told so, if they burnt");
        Consumer<BurntLetters> rumour = x -> x.file(RUMOUR, 0);
        fitsAre(1, law("550000;9", rumour.andThen(x -> x.ashes(0))));
        fitsAre(1, law("550000;9", rumour.andThen(x -> x.ashes(1))));
        fitsAre(2, law("550000;9", rumour.andThen(x -> x.ashes(1)).andThen(x -> x.ashes(1))));
        fitsAre(0, law("550000;9", rumour.andThen(x -> x.ashes(1)).andThen(x -> x.ashes(0))));
        burntIs(1, 0, law("550000;9", rumour.andThen(x -> x.ashes(1))));
        burntIs(0, 0, law("550000;9", rumour.andThen(x -> x.ashes(NONE)).andThen(x -> x.ashes(0))));
    }

    private static void fitsState() {
        edges.says(21, "STATE: no LAW");
        edges.refused(STATE, "ashes, but no law", Edges::bare, x -> x.fits());
        edges.refused(STATE, "neither", () -> new BurntLetters(), x -> x.fits());
    }

    private static void burntIs(int due, int year, Supplier<BurntLetters> made) {
        edges.tells(due, "burnt(" + year + ")", made, x -> x.burnt(year));
    }

    private static void burntIsTheSame() {
        edges.says(Edges.TERMS, "which LETTER it is in a YEAR of these, if it is the same in all");
        for (int letter = 0; letter < 6; letter++) {
            int its = letter;
            for (int ahead = 0; ahead < 5; ahead++) {
                int years = ahead;
                Supplier<BurntLetters> made = law("111115;9", x -> {
                    x.file(FILE, its);
                    for (int i = 0; i < years; i++) {
                        x.ashes(1);
                    }
                    x.ashes(0);
                });
                burntIs(letter, ahead, made);
                if (ahead > 0) {
                    burntIs(NONE, 0, made);
                    burntIs(NONE, ahead - 1, made);
                }
            }
        }
        burntIs(1, 0, () -> told("550000;9", 1, 1, 0));
        burntIs(0, 1, () -> told("550000;9", 1, 1, 0));
        burntIs(1, 0, () -> told("550000;9", 1, NONE, NONE, NONE, NONE, 1));
        burntIs(1, 4, () -> told("550000;9", 1, NONE, NONE, NONE, NONE, 1));
    }

    private static void burntIsNot() {
        edges.says(22, "NONE: it is not the same");
        burntIs(NONE, 0, () -> told("550000;9", 0, NONE));
        burntIs(NONE, 0, () -> told("550000;9", 0, 0));
        burntIs(NONE, 1, () -> told("550000;9", 1, 0, 0));
        burntIs(NONE, 0, () -> told("111115;9", 4, 15));
        burntIs(5, 0, () -> told("111115;9", 5, 31));
        burntIs(NONE, 4, () -> told("111115;9", 1, NONE, NONE, NONE, NONE, 0));
    }

    private static void burntOfNoRows() {
        edges.says(22, "or there are no such rows");
        for (int year = 0; year < 3; year++) {
            burntIs(NONE, year, () -> told("550000;9", 1, 0, 1, NONE));
        }
        burntIs(NONE, 0, () -> told("055000;9", 1, 0));
    }

    private static void burntUnknown() {
        edges.says(22, "UNKNOWN: year (from 0, of the ASHES)");
        for (int many = 0; many <= 5; many++) {
            int years = many;
            Supplier<BurntLetters> made = law("222220;9", x -> {
                for (int i = 0; i < years; i++) {
                    x.ashes(NONE);
                }
            });
            for (int year : new int[] {-1, many, many + 1, 5, Integer.MIN_VALUE, Integer.MAX_VALUE}) {
                edges.refused(UNKNOWN, many + " years, burnt(" + year + ")", made, x -> x.burnt(year));
            }
            for (int year = 0; year < many; year++) {
                burntIs(NONE, year, made);
            }
        }
    }

    private static void burntState() {
        edges.says(22, "UNKNOWN: year (from 0, of the ASHES); STATE: no LAW");
        edges.refused(STATE, "no law, burnt(0)", Edges::bare, x -> x.burnt(0));
        edges.refused(STATE, "no law, burnt(1)", Edges::bare, x -> x.burnt(1));
        edges.refused(UNKNOWN, "year ahead of no law", Edges::bare, x -> x.burnt(2));
        edges.refused(UNKNOWN, "year ahead of no law", Edges::bare, x -> x.burnt(-1));
        edges.refused(UNKNOWN, "no ashes, no law", () -> new BurntLetters(), x -> x.burnt(0));
    }

    private static long next(long seed) {
        return (1103515245L * seed + 12345L) % 2147483648L;
    }

    private static int draw(long seed) {
        return (int) (next(seed) / 65536 % 10);
    }

    private static void seedsWrapAround() {
        edges.says(Edges.TERMS, "1103515245 times it and 12345, its rest by 2 to the 31");
        // This row of numbers is a well known one.
        int[] row = {12345, 1406932606, 654583775, 1449466924, 229283573, 1109335178, 1051550459, 1293799192,
            794471793, 551188310};
        BurntLetters x = files("222220;9", 2);
        for (int years = 1; years <= row.length; years++) {
            edges.is("years(" + years + ", 0, 2)", x.years(years, 0, 2), row[years - 1]);
        }
        edges.is("years(1, 1, 2)", x.years(1, 1, 2), 1103527590);
        edges.is("years(1, 2, 2)", x.years(1, 2, 2), 59559187);
        edges.is("years(1, MAX_VALUE, 2)", x.years(1, Integer.MAX_VALUE, 2), 1043980748);
        long seed = Integer.MAX_VALUE;
        for (int years = 1; years <= 60; years++) {
            seed = next(seed);
            edges.is("years(" + years + ", MAX_VALUE, 2)", x.years(years, Integer.MAX_VALUE, 2), seed);
        }
    }

    private static void drawsByTenths() {
        edges.says(Edges.TERMS, "by a DRAW of 10 (as many of ten as its TENTHS, LETTER 0 first)");
        for (String lots : new String[] {"121222", "000019", "910000", "190000", "500005", "000091", "012340"}) {
            StringBuilder tenths = new StringBuilder();
            for (int letter = 0; letter < 6; letter++) {
                for (int i = lots.charAt(letter); i > '0'; i--) {
                    tenths.append(letter);
                }
            }
            BurntLetters x = files(lots + ";9", 5);
            for (int seed : seedsOfEachDraw()) {
                int letter = tenths.charAt(draw(seed)) - '0';
                edges.is(lots + ", years(1, " + seed + ", 0)", x.years(1, seed, 0), 31 & ~(1 << letter));
                edges.is(lots + ", years(1, " + seed + ", 1)", x.years(1, seed, 1), letter < 5 ? 4 : 5);
            }
        }
        edges.is("years(1, 0, 0), draw 0", files("190000;9", 5).years(1, 0, 0), 30);
        edges.is("years(1, 1, 0), draw 8", files("800020;9", 5).years(1, 1, 0), 15);
        edges.is("years(1, 1, 0), draw 8", files("900010;9", 5).years(1, 1, 0), 30);
        edges.is("years(1, MAX_VALUE, 0), draw 9", files("900010;9", 5).years(1, Integer.MAX_VALUE, 0), 15);
    }

    private static int[] seedsOfEachDraw() {
        int[] seeds = new int[10];
        Arrays.fill(seeds, -1);
        for (int seed = 0; seed < 1000; seed++) {
            seeds[draw(seed)] = seed;
        }
        return seeds;
    }

    /** Years by a seed end as the same years do when they are told one by one. */
    private static void yearsAsTheyWouldBe() {
        edges.says(23, "0 which FILES LIVE then, as bits, 1 how many LEAVES there are, 2 the SEED then");
        int[] lots = {2, 1, 2, 2, 1, 2};
        Supplier<BurntLetters> made = law("212212;2", x -> {
            x.file(FLOOD, 5);
            x.copy(0, 0);
            x.copy(0, 3);
            x.file(RUMOUR, 2);
            x.file(DEED, 4);
            x.point(1, 2);
            x.file(RUMOUR, 4);
            x.file(FILE, 3);
            x.point(2, 4);
        });
        for (int first : new int[] {0, 1, 77, 65536, Integer.MAX_VALUE}) {
            BurntLetters burnt = made.get();
            long seed = first;
            for (int years = 1; years <= 60; years++) {
                int left = draw(seed);
                int letter = 0;
                while (left >= lots[letter]) {
                    left -= lots[letter];
                    letter++;
                }
                burnt.burn(letter);
                seed = next(seed);
                if (years < 5 || years > 58) {
                    int living = 0;
                    for (int file = 0; file < 5; file++) {
                        living |= burnt.about(file, 4) << file;
                    }
                    isThen(made, years, first, living, burnt.count(3), (int) seed);
                }
            }
        }
    }

    private static void isThen(Supplier<BurntLetters> made, int years, int first, int living, int leaves, int seed) {
        String call = "years(" + years + ", " + first + ", ";
        edges.tells(living, call + "0)", made, x -> x.years(years, first, 0));
        edges.tells(leaves, call + "1)", made, x -> x.years(years, first, 1));
        edges.tells(seed, call + "2)", made, x -> x.years(years, first, 2));
    }

    private static void yearsOutside() {
        edges.says(23, "OUTSIDE: years (1 to 60), seed (0 at least), what");
        BurntLetters x = files("222220;9", 0);
        edges.is("years(1, 0, 1)", x.years(1, 0, 1), 0);
        edges.is("years(60, 0, 1)", x.years(60, 0, 1), 0);
        edges.is("years(60, MAX_VALUE, 0)", x.years(60, Integer.MAX_VALUE, 0), 0);
        for (int years : new int[] {0, 61, -1, Integer.MIN_VALUE, Integer.MAX_VALUE}) {
            edges.refused(OUTSIDE, "years(" + years + ", 0, 0)", Edges::busy, b -> b.years(years, 0, 0));
        }
        for (int seed : new int[] {-1, -2, Integer.MIN_VALUE}) {
            edges.refused(OUTSIDE, "years(1, " + seed + ", 0)", Edges::busy, b -> b.years(1, seed, 0));
        }
        for (int what : new int[] {-1, 3, Integer.MIN_VALUE, Integer.MAX_VALUE}) {
            edges.refused(OUTSIDE, "years(60, 0, " + what + ")", Edges::busy, b -> b.years(60, 0, what));
        }
    }

    private static void yearsState() {
        edges.says(23, "OUTSIDE: years (1 to 60), seed (0 at least), what; STATE: no LAW");
        for (int what = 0; what < 3; what++) {
            int its = what;
            edges.refused(STATE, "no law, years(1, 0, " + what + ")", Edges::bare, x -> x.years(1, 0, its));
        }
        edges.refused(OUTSIDE, "years ahead of no law", Edges::bare, x -> x.years(0, 0, 0));
        edges.refused(OUTSIDE, "years ahead of no law", Edges::bare, x -> x.years(61, 0, 0));
        edges.refused(OUTSIDE, "seed ahead of no law", Edges::bare, x -> x.years(1, -1, 0));
        edges.refused(OUTSIDE, "what ahead of no law", Edges::bare, x -> x.years(1, 0, 3));
    }
}
