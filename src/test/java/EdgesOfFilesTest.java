import java.io.IOException;
import java.util.function.Consumer;
import java.util.function.Supplier;

/** The edges of promises 7 to 12: files, their leaves under letters, what they point to. */
public final class EdgesOfFilesTest {
    private static final int NONE = Edges.NONE, UNKNOWN = Edges.UNKNOWN, OUTSIDE = Edges.OUTSIDE,
        STATE = Edges.STATE, FULL = Edges.FULL;
    private static final int FILE = 0, RUMOUR = 1, DEED = 2, RIVER = 3, FLOOD = 4;
    private static final int[] NAMES = {2, 6, 2, 3, 3};
    private static final int[] NO_LETTERS = {-1, 6, Integer.MIN_VALUE, Integer.MAX_VALUE};
    private static final int[] NO_KINDS = {-1, 5, Integer.MIN_VALUE, Integer.MAX_VALUE};
    /** Edges.busy() has the files 0 to 3. */
    private static final int[] NO_FILES = {-1, 4, Integer.MIN_VALUE, Integer.MAX_VALUE};
    private static Edges edges;

    public static void main(String[] args) throws IOException {
        edges = new Edges();
        fileOfEachKindUnderEachLetter();
        fileNumbers();
        fileOutside();
        fileUnknown();
        fileNoLaw();
        fileNoRoom();
        fileFull();
        fileRefusalsInOrder();
        aboutKindAndNames();
        aboutLeavesAsBits();
        aboutPointing();
        aboutKept();
        aboutLives();
        aboutRefusals();
        asKind();
        asRefusals();
        copyOneUnderEach();
        copyUpToItsNames();
        copyUnknown();
        copyState();
        copyRefusalsInOrder();
        renameTells();
        renameUnknown();
        renameState();
        renameRefusalsInOrder();
        pointTells();
        pointUnknown();
        pointState();
        pointRefusalsInOrder();
        edges.end(7, 12);
    }

    private static Supplier<BurntLetters> law(String text, Consumer<BurntLetters> more) {
        return Edges.underLaw(text, more);
    }

    private static void isFile(BurntLetters x, int file, int... about) {
        for (int what = 0; what < about.length; what++) {
            edges.is("about(" + file + ", " + what + ")", x.about(file, what), about[what]);
        }
    }

    private static void fileOfEachKindUnderEachLetter() {
        edges.says(Edges.TERMS, "are of KINDS: 0 FILE, 1 RUMOUR, 2 DEED, 3 RIVER, 4 FLOOD");
        for (int kind = 0; kind < 5; kind++) {
            for (int letter = 0; letter < 6; letter++) {
                BurntLetters x = Due.under("222220;1");
                edges.is("file(" + kind + ", " + letter + ")", x.file(kind, letter), 0);
                isFile(x, 0, kind, 1 << letter, NONE, 0, 1, NAMES[kind]);
            }
        }
    }

    private static void fileNumbers() {
        edges.says(7, "FILING: its number");
        BurntLetters x = Due.under("222220;9");
        for (int number = 0; number < 5; number++) {
            edges.is("file(" + number + ", 0)", x.file(number, 0), number);
            edges.is("count(1)", x.count(1), number + 1);
        }
        x = Due.under("222220;9");
        x.file(DEED, 0);
        x.image();
        x.file(FLOOD, 1);
        x.file(FILE, 2);
        x.point(2, 1);
        x.point(1, 2);
        x.burn(1);
        x.restore();
        edges.is("a number that restore() took back", x.file(FILE, 5), 1);
        isFile(x, 1, FILE, 32, NONE, 0, 1, 2);
        edges.is("the next one", x.file(RIVER, 4), 2);
        isFile(x, 2, RIVER, 16, NONE, 0, 1, 3);
    }

    private static void fileOutside() {
        edges.says(7, "OUTSIDE: kind");
        for (int kind : NO_KINDS) {
            edges.refused(OUTSIDE, "file(" + kind + ", 3)", Edges::busy, x -> x.file(kind, 3));
        }
    }

    private static void fileUnknown() {
        edges.says(7, "UNKNOWN: letter");
        for (int letter : NO_LETTERS) {
            edges.refused(UNKNOWN, "file(4, " + letter + ")", Edges::busy, x -> x.file(FLOOD, letter));
        }
    }

    private static void fileNoLaw() {
        edges.says(7, "STATE: no LAW");
        edges.refused(STATE, "file(0, 0)", Edges::bare, x -> x.file(FILE, 0));
        edges.refused(STATE, "file(4, 5)", Edges::bare, x -> x.file(FLOOD, 5));
        edges.refused(STATE, "a page that is a law is none yet", () -> {
            BurntLetters x = new BurntLetters();
            Due.type(x, "222220;9");
            return x;
        }, x -> x.file(FILE, 0));
    }

    private static void fileNoRoom() {
        edges.says(7, "or there is no ROOM");
        for (int room = 1; room <= 4; room++) {
            int full = room;
            Supplier<BurntLetters> made = law("222220;" + room, x -> {
                for (int i = 0; i < full; i++) {
                    x.file(FILE, 5);
                }
            });
            edges.refused(STATE, "one above room " + room, made, x -> x.file(FILE, 5));
            edges.is("another letter has room", made.get().file(FILE, 4), room);
            BurntLetters x = made.get();
            x.burn(5);
            edges.is("room again behind a fire", x.file(FILE, 5), room);
        }
        edges.refused(STATE, "a copy's letter is full", law("222220;1", x -> {
            x.file(FILE, 0);
            x.copy(0, 1);
        }), x -> x.file(FILE, 1));
    }

    private static BurntLetters fiveFiles(String law) {
        BurntLetters x = Due.under(law);
        for (int letter = 0; letter < 5; letter++) {
            x.file(FILE, letter);
        }
        return x;
    }

    private static void fileFull() {
        edges.says(7, "FULL");
        for (int kind = 0; kind < 5; kind++) {
            int sixth = kind;
            edges.refused(FULL, "a sixth file", () -> fiveFiles("222220;9"), x -> x.file(sixth, 5));
        }
        edges.refused(FULL, "those that do not live are files", () -> {
            BurntLetters x = fiveFiles("222220;9");
            for (int letter = 0; letter < 5; letter++) {
                x.burn(letter);
            }
            return x;
        }, x -> x.file(FILE, 0));
    }

    private static void fileRefusalsInOrder() {
        edges.says(7, "OUTSIDE: kind; UNKNOWN: letter; STATE: no LAW, or there is no ROOM; FULL");
        Supplier<BurntLetters> full = () -> fiveFiles("222220;1");
        edges.refused(OUTSIDE, "kind ahead of letter", Edges::busy, x -> x.file(5, 6));
        edges.refused(OUTSIDE, "kind ahead of no law", Edges::bare, x -> x.file(-1, 0));
        edges.refused(OUTSIDE, "kind ahead of no room", full, x -> x.file(5, 0));
        edges.refused(OUTSIDE, "kind ahead of full", full, x -> x.file(5, 5));
        edges.refused(OUTSIDE, "kind ahead of all", full, x -> x.file(5, 6));
        edges.refused(UNKNOWN, "letter ahead of no law", Edges::bare, x -> x.file(0, 6));
        edges.refused(UNKNOWN, "letter ahead of full", full, x -> x.file(0, -1));
        edges.refused(STATE, "no room ahead of full", full, x -> x.file(0, 4));
        edges.refused(FULL, "full alone", full, x -> x.file(0, 5));
    }

    private static void aboutKindAndNames() {
        edges.says(8, "0 KIND");
        for (int kind = 0; kind < 5; kind++) {
            BurntLetters x = Due.under("222220;9");
            x.file(kind, 0);
            edges.is("about(0, 0)", x.about(0, 0), kind);
            edges.is("about(0, 5)", x.about(0, 5), NAMES[kind]);
            x.burn(0);
            edges.is("about(0, 0) of a dead one", x.about(0, 0), kind);
            edges.is("about(0, 5) of a dead one", x.about(0, 5), NAMES[kind]);
        }
    }

    private static void aboutLeavesAsBits() {
        edges.says(8, "1 LEAVES, as bits");
        BurntLetters x = Due.under("222220;1");
        x.file(RUMOUR, 5);
        int bits = 32;
        edges.is("about(0, 1)", x.about(0, 1), bits);
        for (int letter = 0; letter < 5; letter++) {
            x.copy(0, letter);
            bits |= 1 << letter;
            edges.is("about(0, 1) behind copy(0, " + letter + ")", x.about(0, 1), bits);
        }
        x = Due.under("222220;1");
        x.file(FILE, 3);
        x.burn(3);
        edges.is("about(0, 1) of a dead one", x.about(0, 1), 0);
    }

    private static void aboutPointing() {
        edges.says(8, "2 to which FILE it POINTS (NONE)");
        BurntLetters x = fiveFiles("222220;9");
        for (int to = 1; to < 5; to++) {
            x.point(0, to);
            edges.is("about(0, 2)", x.about(0, 2), to);
        }
        x.point(4, 0);
        edges.is("about(4, 2)", x.about(4, 2), 0);
        x.point(0, NONE);
        edges.is("about(0, 2) of one that points to none", x.about(0, 2), NONE);
        x.burn(4);
        edges.is("about(4, 4)", x.about(4, 4), 0);
        edges.is("about(4, 2) of a dead one", x.about(4, 2), 0);
    }

    private static void aboutKept() {
        edges.says(8, "3 how often it has been KEPT");
        BurntLetters x = Due.under("222220;9");
        x.file(DEED, 0);
        x.file(FILE, 1);
        x.point(1, 0);
        for (int often = 0; often <= 2; often++) {
            edges.is("about(0, 3)", x.about(0, 3), often);
            edges.is("about(1, 3)", x.about(1, 3), 0);
            x.burn(0);
        }
        edges.is("about(0, 3) of a dead one", x.about(0, 3), 2);
    }

    private static void aboutLives() {
        edges.says(8, "4 whether it LIVES (1, 0)");
        BurntLetters x = Due.under("222220;9");
        x.file(FILE, 0);
        x.copy(0, 5);
        edges.is("two leaves", x.about(0, 4), 1);
        x.burn(0);
        edges.is("one leaf", x.about(0, 4), 1);
        x.burn(5);
        edges.is("no leaf", x.about(0, 4), 0);
    }

    private static void aboutRefusals() {
        edges.says(8, "UNKNOWN; OUTSIDE");
        for (int file : NO_FILES) {
            edges.refused(UNKNOWN, "about(" + file + ", 0)", Edges::busy, x -> x.about(file, 0));
            edges.refused(UNKNOWN, "about(" + file + ", 6)", Edges::busy, x -> x.about(file, 6));
        }
        edges.refused(UNKNOWN, "no law, about(0, 0)", Edges::bare, x -> x.about(0, 0));
        edges.refused(UNKNOWN, "five files, about(5, 0)", () -> fiveFiles("222220;9"), x -> x.about(5, 0));
        for (int what : new int[] {-1, 6, Integer.MIN_VALUE, Integer.MAX_VALUE}) {
            edges.refused(OUTSIDE, "about(3, " + what + ")", Edges::busy, x -> x.about(3, what));
            edges.refused(OUTSIDE, "of a dead one, about(0, " + what + ")", Edges::busy, x -> x.about(0, what));
        }
        BurntLetters x = Edges.busy();
        x.restore();
        edges.is("a file that is gone by restore()", x.about(2, 0), UNKNOWN);
        edges.is("one that stays", x.about(1, 0), DEED);
    }

    private static void asKind() {
        edges.says(9, "A FILE taken as a KIND: its number; NONE: it is none such (the cast fails)");
        String[] such = {"10000", "11000", "10100", "10010", "10011"};
        for (int kind = 0; kind < 5; kind++) {
            for (int number = 0; number < 5; number += 4) {
                BurntLetters x = Due.under("222220;9");
                for (int i = 0; i < number; i++) {
                    x.file(RUMOUR, 0);
                }
                x.file(kind, 1);
                for (int as = 0; as < 5; as++) {
                    int due = such[kind].charAt(as) == '1' ? number : NONE;
                    edges.is("a " + kind + " as(" + number + ", " + as + ")", x.as(number, as), due);
                }
                x.burn(1);
                edges.is("a dead one as(" + number + ", 0)", x.as(number, 0), number);
            }
        }
    }

    private static void asRefusals() {
        edges.says(9, "UNKNOWN; OUTSIDE");
        for (int file : NO_FILES) {
            edges.refused(UNKNOWN, "as(" + file + ", 0)", Edges::busy, x -> x.as(file, 0));
            edges.refused(UNKNOWN, "as(" + file + ", 5)", Edges::busy, x -> x.as(file, 5));
        }
        for (int kind : NO_KINDS) {
            edges.refused(OUTSIDE, "as(3, " + kind + ")", Edges::busy, x -> x.as(3, kind));
        }
        edges.refused(UNKNOWN, "no law, as(0, 0)", Edges::bare, x -> x.as(0, 0));
    }

    private static void copyOneUnderEach() {
        edges.says(Edges.TERMS, "LEAVES under LETTERS (one at most under each)");
        for (int letter = 0; letter < 6; letter++) {
            int its = letter;
            edges.refused(STATE, "copy(0, " + its + ")", law("222220;9", x -> x.file(RIVER, its)), x -> x.copy(0, its));
        }
    }

    private static void copyUpToItsNames() {
        edges.says(10, "A COPY: how many LEAVES it has");
        for (int kind = 0; kind < 5; kind++) {
            BurntLetters x = Due.under("222220;1");
            x.file(kind, 5);
            for (int letter = 0; letter < 5; letter++) {
                int due = letter + 2 <= NAMES[kind] ? letter + 2 : STATE;
                edges.is("copy(0, " + letter + ") of a " + kind, x.copy(0, letter), due);
            }
            edges.is("its leaves", Integer.bitCount(x.about(0, 1)), NAMES[kind]);
        }
    }

    private static void copyUnknown() {
        edges.says(10, "UNKNOWN: file, letter");
        for (int file : NO_FILES) {
            edges.refused(UNKNOWN, "copy(" + file + ", 3)", Edges::busy, x -> x.copy(file, 3));
        }
        for (int letter : NO_LETTERS) {
            edges.refused(UNKNOWN, "copy(3, " + letter + ")", Edges::busy, x -> x.copy(3, letter));
        }
        edges.refused(UNKNOWN, "no law, copy(0, 0)", Edges::bare, x -> x.copy(0, 0));
    }

    private static void copyState() {
        edges.says(10, "STATE: it does not LIVE, it has one there, all its NAMES, or there is no ROOM");
        edges.refused(STATE, "it does not live", Edges::busy, x -> x.copy(0, 3));
        edges.refused(STATE, "it has one there", Edges::busy, x -> x.copy(2, 5));
        for (int kind = 0; kind < 5; kind++) {
            int its = kind;
            if (kind == RUMOUR) {
                continue;
            }
            edges.refused(STATE, "all names of a " + kind, law("222220;9", x -> {
                x.file(its, 0);
                for (int letter = 1; letter < NAMES[its]; letter++) {
                    x.copy(0, letter);
                }
            }), x -> x.copy(0, 5));
        }
        for (int room = 1; room <= 4; room++) {
            int full = room;
            Supplier<BurntLetters> made = law("222220;" + room, x -> {
                x.file(RUMOUR, 0);
                for (int i = 0; i < full; i++) {
                    x.file(FILE, 5);
                }
            });
            edges.refused(STATE, "no room, " + room, made, x -> x.copy(0, 5));
            BurntLetters x = made.get();
            x.rename(1, 5, 4);
            edges.is("room for the last one, " + room, x.copy(0, 5), 2);
        }
    }

    private static void copyRefusalsInOrder() {
        edges.says(10, "UNKNOWN: file, letter; STATE: it does not LIVE");
        edges.refused(UNKNOWN, "letter ahead of what does not live", Edges::busy, x -> x.copy(0, 6));
        edges.refused(UNKNOWN, "letter ahead of all its names", law("222220;9", x -> {
            x.file(FILE, 0);
            x.copy(0, 1);
        }), x -> x.copy(0, -1));
        edges.refused(UNKNOWN, "file ahead of no room", Edges::busy, x -> x.copy(4, 1));
    }

    private static void renameTells() {
        edges.says(11, "RENAMING: how many LEAVES are under the other LETTER");
        BurntLetters x = fiveFiles("222220;5");
        for (int file = 0; file < 5; file++) {
            edges.is("rename(" + file + ", " + file + ", 5)", x.rename(file, file, 5), file + 1);
            edges.is("under(" + file + ", 1)", x.under(file, 1), 0);
            edges.is("about(" + file + ", 1)", x.about(file, 1), 32);
        }
        edges.is("from a full letter", x.rename(4, 5, 0), 1);
        x = Due.under("222220;1");
        x.file(FILE, 0);
        x.copy(0, 1);
        edges.is("one with all its names", x.rename(0, 1, 5), 1);
        edges.is("its leaves", x.about(0, 1), 33);
        edges.is("its kind and names stay", x.about(0, 0) * 10 + x.about(0, 5), 2);
    }

    private static void renameUnknown() {
        edges.says(11, "UNKNOWN: file, from, to, or they are the same");
        for (int file : NO_FILES) {
            edges.refused(UNKNOWN, "rename(" + file + ", 1, 3)", Edges::busy, x -> x.rename(file, 1, 3));
        }
        for (int letter : NO_LETTERS) {
            edges.refused(UNKNOWN, "rename(3, " + letter + ", 3)", Edges::busy, x -> x.rename(3, letter, 3));
            edges.refused(UNKNOWN, "rename(3, 1, " + letter + ")", Edges::busy, x -> x.rename(3, 1, letter));
            edges.refused(UNKNOWN, "rename(3, " + letter + ", " + letter + ")", Edges::busy,
                x -> x.rename(3, letter, letter));
        }
        for (int letter = 0; letter < 6; letter++) {
            int same = letter;
            edges.refused(UNKNOWN, "rename(3, " + letter + ", " + letter + ")", Edges::busy,
                x -> x.rename(3, same, same));
        }
        edges.refused(UNKNOWN, "no law, rename(0, 0, 1)", Edges::bare, x -> x.rename(0, 0, 1));
    }

    private static void renameState() {
        edges.says(11, "STATE: it has none there, has one under the other one, or there is no ROOM");
        edges.refused(STATE, "it has none there", Edges::busy, x -> x.rename(3, 3, 4));
        edges.refused(STATE, "it does not live", Edges::busy, x -> x.rename(0, 0, 4));
        edges.refused(STATE, "it has one under the other one", Edges::busy, x -> x.rename(2, 5, 0));
        edges.refused(STATE, "no room", Edges::busy, x -> x.rename(2, 5, 1));
        for (int room = 1; room <= 4; room++) {
            int full = room;
            Supplier<BurntLetters> made = law("222220;" + room, x -> {
                x.file(FILE, 0);
                for (int i = 0; i < full; i++) {
                    x.file(FILE, 5);
                }
            });
            edges.refused(STATE, "no room, " + room, made, x -> x.rename(0, 0, 5));
            BurntLetters x = made.get();
            x.rename(1, 5, 4);
            edges.is("room for the last one, " + room, x.rename(0, 0, 5), room);
        }
    }

    private static void renameRefusalsInOrder() {
        edges.says(11, "UNKNOWN: file, from, to, or they are the same; STATE: it has none there");
        edges.refused(UNKNOWN, "the same, where it has none", Edges::busy, x -> x.rename(3, 4, 4));
        edges.refused(UNKNOWN, "the same, of a dead one", Edges::busy, x -> x.rename(0, 0, 0));
        edges.refused(UNKNOWN, "to, where it has none from", Edges::busy, x -> x.rename(3, 4, 6));
        edges.refused(UNKNOWN, "file, where there is no room", Edges::busy, x -> x.rename(4, 0, 1));
    }

    private static void pointTells() {
        edges.says(12, "A FILE POINTS to another one (NONE: to none): to which it did (NONE)");
        BurntLetters x = fiveFiles("222220;9");
        edges.is("point(0, NONE) at first", x.point(0, NONE), NONE);
        edges.is("point(0, 4)", x.point(0, 4), NONE);
        edges.is("point(0, 4) again", x.point(0, 4), 4);
        edges.is("point(0, 1)", x.point(0, 1), 4);
        edges.is("point(4, 0)", x.point(4, 0), NONE);
        edges.is("point(4, NONE)", x.point(4, NONE), 0);
        edges.is("point(4, NONE) again", x.point(4, NONE), NONE);
        edges.is("point(1, 0), and 0 points back", x.point(1, 0), NONE);
        edges.is("about(0, 2)", x.about(0, 2), 1);
        x.burn(2);
        edges.is("to one that does not live", x.point(0, 2), 1);
        edges.is("about(0, 2) then", x.about(0, 2), 2);
    }

    private static void pointUnknown() {
        edges.says(12, "UNKNOWN: file, to, or they are the same");
        for (int file : NO_FILES) {
            edges.refused(UNKNOWN, "point(" + file + ", 1)", Edges::busy, x -> x.point(file, 1));
            edges.refused(UNKNOWN, "point(" + file + ", NONE)", Edges::busy, x -> x.point(file, NONE));
            if (file != NONE) {
                edges.refused(UNKNOWN, "point(3, " + file + ")", Edges::busy, x -> x.point(3, file));
            }
        }
        edges.refused(UNKNOWN, "point(3, -2)", Edges::busy, x -> x.point(3, -2));
        for (int file = 0; file < 4; file++) {
            int same = file;
            edges.refused(UNKNOWN, "point(" + file + ", " + file + ")", Edges::busy, x -> x.point(same, same));
        }
        edges.refused(UNKNOWN, "no law, point(0, NONE)", Edges::bare, x -> x.point(0, NONE));
    }

    private static void pointState() {
        edges.says(12, "STATE: it does not LIVE");
        edges.refused(STATE, "point(0, 1)", Edges::busy, x -> x.point(0, 1));
        edges.refused(STATE, "point(0, 3)", Edges::busy, x -> x.point(0, 3));
        edges.refused(STATE, "point(0, NONE)", Edges::busy, x -> x.point(0, NONE));
    }

    private static void pointRefusalsInOrder() {
        edges.says(12, "UNKNOWN: file, to, or they are the same; STATE: it does not LIVE");
        edges.refused(UNKNOWN, "the same, of a dead one", Edges::busy, x -> x.point(0, 0));
        edges.refused(UNKNOWN, "to, of a dead one", Edges::busy, x -> x.point(0, 4));
        edges.refused(UNKNOWN, "to, of a dead one", Edges::busy, x -> x.point(0, -2));
    }
}
