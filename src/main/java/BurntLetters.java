/** An archive that burns the leaves under one letter each New Year; ../shared/DOC.md tells its promises. */
public final class BurntLetters {
    public static final int NONE = -1, UNKNOWN = -101, OUTSIDE = -102, STATE = -103, FULL = -104;

    private static final int LETTERS = 6;
    private static final int MOST_FILES = 5;
    private static final int MOST_ASHES = 5;
    private static final int MOST_YEARS_AHEAD = 4;
    private static final int MOST_YEARS_BY_SEED = 60;
    private static final int MOST_RENAMINGS = 3;
    private static final int MOST_SURE = 30;
    private static final int MOST_MOVING = 10;
    private static final int TENTHS = 10;
    private static final int DIGEST_YEARS = 2;

    private final Page page;
    private final Law rules;
    private final Archive archive;
    private final Archive kept;
    private final Foresight foresight;
    private boolean imageKept;
    private int lawsRead;
    private int sureDone;
    private int movingDone;

    public BurntLetters() {
        page = new Page();
        rules = new Law();
        archive = new Archive(rules);
        kept = new Archive(rules);
        foresight = new Foresight(rules, archive);
    }

    // ---- the law

    public int letter(int code) {
        if (code < 1 || code > 126) {
            return OUTSIDE;
        }
        if (page.isFull()) {
            return FULL;
        }
        return page.append(code);
    }

    public int blank() {
        return page.clear();
    }

    public int fault() {
        return page.firstFault();
    }

    public int law() {
        if (!page.isLaw()) {
            return STATE;
        }
        rules.read(page);
        page.clear();
        archive.clear();
        imageKept = false;
        lawsRead++;
        return rules.room;
    }

    public int under(int letter, int what) {
        if (!isLetter(letter)) {
            return UNKNOWN;
        }
        if (!within(what, 0, 1)) {
            return OUTSIDE;
        }
        return what == 0 ? rules.tenthsOf(letter) : Shelf.fullness(archive.shelf, letter);
    }

    // ---- files

    public int file(int kind, int letter) {
        if (!Kind.isKind(kind)) {
            return OUTSIDE;
        }
        if (!isLetter(letter)) {
            return UNKNOWN;
        }
        if (!rules.stands() || !archive.hasRoom(archive.shelf, letter)) {
            return STATE;
        }
        if (archive.files >= MOST_FILES) {
            return FULL;
        }
        return archive.add(kind, letter);
    }

    public int about(int file, int what) {
        if (!archive.has(file)) {
            return UNKNOWN;
        }
        switch (what) {
            case 0:
                return archive.kindOf(file);
            case 1:
                return Shelf.leavesOf(archive.shelf, file);
            case 2:
                return archive.targetOf(file);
            case 3:
                return Shelf.keptOf(archive.shelf, file);
            case 4:
                return Shelf.lives(archive.shelf, file) ? 1 : 0;
            case 5:
                return Kind.namesOf(archive.kindOf(file));
            default:
                return OUTSIDE;
        }
    }

    public int as(int file, int kind) {
        if (!archive.has(file)) {
            return UNKNOWN;
        }
        if (!Kind.isKind(kind)) {
            return OUTSIDE;
        }
        return Kind.isSuch(archive.kindOf(file), kind) ? file : NONE;
    }

    public int copy(int file, int letter) {
        if (!archive.has(file) || !isLetter(letter)) {
            return UNKNOWN;
        }
        if (!archive.mayCopy(archive.shelf, file, letter)) {
            return STATE;
        }
        archive.shelf = Shelf.turned(archive.shelf, file, letter);
        return Integer.bitCount(Shelf.leavesOf(archive.shelf, file));
    }

    public int rename(int file, int from, int to) {
        if (!archive.has(file) || !isLetter(from) || !isLetter(to) || from == to) {
            return UNKNOWN;
        }
        if (!archive.mayRename(archive.shelf, file, from, to)) {
            return STATE;
        }
        archive.shelf = Shelf.moved(archive.shelf, file, from, to);
        return Shelf.fullness(archive.shelf, to);
    }

    public int point(int file, int to) {
        if (!archive.has(file) || (to != NONE && !archive.has(to)) || file == to) {
            return UNKNOWN;
        }
        if (!Shelf.lives(archive.shelf, file)) {
            return STATE;
        }
        return archive.retarget(file, to);
    }

    public int burn(int letter) {
        if (!isLetter(letter)) {
            return UNKNOWN;
        }
        if (!rules.stands()) {
            return STATE;
        }
        return archive.passYear(letter);
    }

    // ---- what would be

    public int odds(int file, int years, int part) {
        if (!archive.has(file)) {
            return UNKNOWN;
        }
        if (!within(years, 0, MOST_YEARS_AHEAD) || !within(part, 0, 1)) {
            return OUTSIDE;
        }
        int above = foresight.waysToLive(archive.shelf, file, years);
        return inLowestTerms(above, years, part);
    }

    public int where(int file, int years) {
        if (!archive.has(file)) {
            return UNKNOWN;
        }
        if (!within(years, 0, MOST_YEARS_AHEAD)) {
            return OUTSIDE;
        }
        return foresight.bestCopy(file, years);
    }

    public int sure(int kind, int years, int what) {
        boolean told = kind == Kind.FILE || kind == Kind.RIVER || kind == Kind.FLOOD;
        if (!told || !within(years, 0, MOST_YEARS_AHEAD) || !within(what, 0, 1)) {
            return OUTSIDE;
        }
        if (!rules.stands() || sureDone >= MOST_SURE) {
            return STATE;
        }
        sureDone++;
        int set = foresight.fewestSure(kind, years);
        if (set == NONE) {
            return NONE;
        }
        return what == 0 ? Integer.bitCount(set) : set;
    }

    public int nowhere() {
        return archive.pointingNowhere();
    }

    public int moving(int leaves) {
        if (!within(leaves, 1, 9)) {
            return OUTSIDE;
        }
        if (!rules.stands() || movingDone >= MOST_MOVING) {
            return STATE;
        }
        movingDone++;
        return foresight.fewestRenamings(leaves);
    }

    // ---- ashes

    public int ashes(int set) {
        if (set < NONE || set >= 1 << archive.files) {
            return OUTSIDE;
        }
        if (archive.ashYears >= MOST_ASHES) {
            return FULL;
        }
        return archive.addAshes(set);
    }

    public int forget() {
        return archive.clearAshes();
    }

    public int fits() {
        if (!rules.stands()) {
            return STATE;
        }
        return foresight.rowsThatFit();
    }

    public int burnt(int year) {
        if (!within(year, 0, archive.ashYears - 1)) {
            return UNKNOWN;
        }
        if (!rules.stands()) {
            return STATE;
        }
        return foresight.onlyLetterIn(year);
    }

    public int years(int years, int seed, int what) {
        if (!within(years, 1, MOST_YEARS_BY_SEED) || seed < 0 || !within(what, 0, 2)) {
            return OUTSIDE;
        }
        if (!rules.stands()) {
            return STATE;
        }
        long shelf = archive.shelf;
        int drawn = seed;
        for (int year = 0; year < years; year++) {
            drawn = nextSeed(drawn);
            int letter = rules.letterByDraw(drawn / 65536 % TENTHS);
            shelf = archive.rumoursGrown(archive.burntDown(shelf, letter));
        }
        if (what == 0) {
            return Shelf.living(shelf);
        }
        return what == 1 ? Shelf.allLeaves(shelf) : drawn;
    }

    // ---- what is told of all

    public int image() {
        if (!rules.stands()) {
            return STATE;
        }
        kept.become(archive);
        imageKept = true;
        return archive.years;
    }

    public int restore() {
        if (!imageKept) {
            return STATE;
        }
        archive.become(kept);
        return archive.years;
    }

    public int count(int what) {
        switch (what) {
            case 0:
                return rules.room;
            case 1:
                return archive.files;
            case 2:
                return Integer.bitCount(Shelf.living(archive.shelf));
            case 3:
                return Shelf.allLeaves(archive.shelf);
            case 4:
                return archive.years;
            case 5:
                return archive.ashYears;
            case 6:
                return page.size;
            case 7:
                return lawsRead;
            case 8:
                return sureDone;
            case 9:
                return movingDone;
            default:
                return OUTSIDE;
        }
    }

    public long digest() {
        long h = 769;
        for (int letter = 0; letter < LETTERS; letter++) {
            h = mixed(h, under(letter, 0));
            h = mixed(h, under(letter, 1));
        }
        for (int file = 0; file < MOST_FILES; file++) {
            if (archive.has(file)) {
                h = mixedWithFile(h, file);
            }
        }
        h = mixed(h, nowhere());
        if (rules.stands()) {
            h = mixed(h, fits());
        }
        for (int place = 0; place < page.size; place++) {
            h = mixed(h, page.codeAt(place));
        }
        for (int what = 0; what < 10; what++) {
            h = mixed(h, count(what));
        }
        return h;
    }

    private long mixedWithFile(long before, int file) {
        long h = before;
        for (int what = 0; what < 6; what++) {
            h = mixed(h, about(file, what));
        }
        int above = foresight.waysToLive(archive.shelf, file, DIGEST_YEARS);
        h = mixed(h, inLowestTerms(above, DIGEST_YEARS, 0));
        h = mixed(h, inLowestTerms(above, DIGEST_YEARS, 1));
        return mixed(h, foresight.bestCopy(file, DIGEST_YEARS));
    }

    private static long mixed(long h, long number) {
        return 31 * h + number;
    }

    private static boolean isLetter(int letter) {
        return within(letter, 0, LETTERS - 1);
    }

    private static boolean within(int number, int least, int most) {
        return number >= least && number <= most;
    }

    private static int power(int base, int exponent) {
        int product = 1;
        for (int i = 0; i < exponent; i++) {
            product *= base;
        }
        return product;
    }

    /** One part of above / 10^years: below is a power of ten, so 2 and 5 are all that both can share. */
    private static int inLowestTerms(int waysAbove, int years, int part) {
        int above = waysAbove;
        int below = power(TENTHS, years);
        for (int i = 0; i < years; i++) {
            if (above % 2 == 0 && below % 2 == 0) {
                above /= 2;
                below /= 2;
            }
            if (above % 5 == 0 && below % 5 == 0) {
                above /= 5;
                below /= 5;
            }
        }
        return part == 0 ? above : below;
    }

    private static int nextSeed(int seed) {
        return (int) ((1103515245L * seed + 12345L) & 0x7FFFFFFFL);
    }

    /** What each kind of file may do. */
    private static final class Kind {
        private static final int FILE = 0, RUMOUR = 1, DEED = 2, RIVER = 3, FLOOD = 4;

        static boolean isKind(int kind) {
            return within(kind, FILE, FLOOD);
        }

        static boolean isSuch(int kind, int other) {
            return other == FILE || kind == other || (kind == FLOOD && other == RIVER);
        }

        static int namesOf(int kind) {
            if (kind == RUMOUR) {
                return 6;
            }
            return isSuch(kind, RIVER) ? 3 : 2;
        }

        static int mostKept(int kind) {
            return kind == DEED ? 2 : 1;
        }

        /** The leaves of a set that are lost when one under this letter is burnt. */
        static int lostWith(int kind, int letter) {
            int bit = 1 << letter;
            if (kind != FLOOD) {
                return bit;
            }
            int next = letter == LETTERS - 1 ? 1 : bit << 1;
            return bit | next;
        }
    }

    /**
     * The leaves of all files as one number, eight bits a file: six for the letters, two for how often it was kept.
     * As a number, any year that might be is tried without making an object.
     */
    private static final class Shelf {
        private static final int BITS_OF_FILE = 8;
        private static final int SET_OF_LETTERS = 63;
        private static final long ONE_LETTER = 0x0101010101L;
        private static final long ALL_LETTERS = 0x3F3F3F3F3FL;
        private static final long KEPT_ONCE = 1L << LETTERS;

        static int leavesOf(long shelf, int file) {
            return (int) (shelf >>> (file * BITS_OF_FILE)) & SET_OF_LETTERS;
        }

        static int keptOf(long shelf, int file) {
            return (int) (shelf >>> (file * BITS_OF_FILE + LETTERS)) & 3;
        }

        static boolean lives(long shelf, int file) {
            return leavesOf(shelf, file) != 0;
        }

        static boolean hasLeaf(long shelf, int file, int letter) {
            return ((shelf >>> (file * BITS_OF_FILE + letter)) & 1) != 0;
        }

        static int living(long shelf) {
            int set = 0;
            for (int file = 0; file < MOST_FILES; file++) {
                if (lives(shelf, file)) {
                    set |= 1 << file;
                }
            }
            return set;
        }

        static int fullness(long shelf, int letter) {
            return Long.bitCount(shelf & (ONE_LETTER << letter));
        }

        static int allLeaves(long shelf) {
            return Long.bitCount(shelf & ALL_LETTERS);
        }

        /** A leaf comes where there is none, or goes where there is one. */
        static long turned(long shelf, int file, int letter) {
            return shelf ^ (1L << (file * BITS_OF_FILE + letter));
        }

        static long moved(long shelf, int file, int from, int to) {
            return turned(turned(shelf, file, from), file, to);
        }

        static long without(long shelf, int file, int set) {
            return shelf & ~((long) set << (file * BITS_OF_FILE));
        }

        static long keptOnceMore(long shelf, int file) {
            return shelf + (KEPT_ONCE << (file * BITS_OF_FILE));
        }
    }

    /** The page: letters by their codes, read as a law when they are one. */
    private static final class Page {
        private static final int MOST_CODES = 10;
        private static final int SEPARATOR_PLACE = LETTERS;
        private static final int ROOM_PLACE = LETTERS + 1;
        private static final int LAW_SIZE = LETTERS + 2;

        private final int[] codes = new int[MOST_CODES];
        private int size;

        boolean isFull() {
            return size >= MOST_CODES;
        }

        int append(int code) {
            if (size >= 0 && size < MOST_CODES) {
                codes[size] = code;
                size++;
            }
            return size;
        }

        int clear() {
            int had = size;
            size = 0;
            return had;
        }

        int codeAt(int place) {
            return place >= 0 && place < MOST_CODES ? codes[place] : 0;
        }

        int digitAt(int place) {
            return codeAt(place) - '0';
        }

        boolean isLaw() {
            return size == LAW_SIZE && firstFault() == LAW_SIZE;
        }

        int firstFault() {
            int lots = 0;
            for (int place = 0; place < size; place++) {
                if (place < LETTERS) {
                    lots += digitAt(place);
                }
                if (!mayStand(place, lots)) {
                    return place;
                }
            }
            return size;
        }

        /** Whether a law has this letter at this place, the lots up to it being so many together. */
        private boolean mayStand(int place, int lots) {
            if (place == SEPARATOR_PLACE) {
                return codeAt(place) == ';';
            }
            if (place == ROOM_PLACE) {
                return within(digitAt(place), 1, 9);
            }
            if (place > ROOM_PLACE || !within(digitAt(place), 0, 9)) {
                return false;
            }
            return place == LETTERS - 1 ? lots == TENTHS : lots <= TENTHS;
        }
    }

    /** How likely each letter is burnt, and how many leaves one may have; room 0 while there is no law. */
    private static final class Law {
        private final int[] tenths = new int[LETTERS];
        private int room;

        void read(Page page) {
            for (int letter = 0; letter < LETTERS; letter++) {
                tenths[letter] = page.digitAt(letter);
            }
            room = page.digitAt(Page.ROOM_PLACE);
        }

        boolean stands() {
            return room > 0;
        }

        int tenthsOf(int letter) {
            return letter >= 0 && letter < LETTERS ? tenths[letter] : 0;
        }

        boolean mayBurn(int letter) {
            return tenthsOf(letter) > 0;
        }

        int lettersThatMayBurn() {
            int many = 0;
            for (int letter = 0; letter < LETTERS; letter++) {
                if (mayBurn(letter)) {
                    many++;
                }
            }
            return many;
        }

        int letterByDraw(int draw) {
            int left = draw;
            for (int letter = 0; letter < LETTERS - 1; letter++) {
                left -= tenthsOf(letter);
                if (left < 0) {
                    return letter;
                }
            }
            return LETTERS - 1;
        }
    }

    /** All that an image keeps: files, years, ashes; and how a year goes by. */
    private static final class Archive {
        private final Law law;
        private final int[] kinds = new int[MOST_FILES];
        private final int[] targets = new int[MOST_FILES];
        private final int[] told = new int[MOST_ASHES];
        private int files;
        private long shelf;
        private int years;
        private int ashYears;

        Archive(Law law) {
            this.law = law;
        }

        void clear() {
            files = 0;
            shelf = 0;
            years = 0;
            ashYears = 0;
        }

        void become(Archive other) {
            System.arraycopy(other.kinds, 0, kinds, 0, MOST_FILES);
            System.arraycopy(other.targets, 0, targets, 0, MOST_FILES);
            System.arraycopy(other.told, 0, told, 0, MOST_ASHES);
            files = other.files;
            shelf = other.shelf;
            years = other.years;
            ashYears = other.ashYears;
        }

        boolean has(int file) {
            return within(file, 0, files - 1);
        }

        int kindOf(int file) {
            return file >= 0 && file < MOST_FILES ? kinds[file] : Kind.FILE;
        }

        int targetOf(int file) {
            return file >= 0 && file < MOST_FILES ? targets[file] : NONE;
        }

        int toldOf(int year) {
            return year >= 0 && year < MOST_ASHES ? told[year] : NONE;
        }

        int add(int kind, int letter) {
            int file = files;
            if (file >= 0 && file < MOST_FILES) {
                kinds[file] = kind;
                targets[file] = NONE;
                shelf = Shelf.turned(shelf, file, letter);
                files++;
            }
            return file;
        }

        int retarget(int file, int to) {
            int before = targetOf(file);
            if (file >= 0 && file < MOST_FILES) {
                targets[file] = to;
            }
            return before;
        }

        int addAshes(int set) {
            if (ashYears >= 0 && ashYears < MOST_ASHES) {
                told[ashYears] = set;
                ashYears++;
            }
            return ashYears;
        }

        int clearAshes() {
            int had = ashYears;
            ashYears = 0;
            return had;
        }

        boolean hasRoom(long at, int letter) {
            return Shelf.fullness(at, letter) < law.room;
        }

        boolean mayCopy(long at, int file, int letter) {
            int leaves = Shelf.leavesOf(at, file);
            return leaves != 0
                && Integer.bitCount(leaves) < Kind.namesOf(kindOf(file))
                && !Shelf.hasLeaf(at, file, letter)
                && hasRoom(at, letter);
        }

        boolean mayRename(long at, int file, int from, int to) {
            return Shelf.hasLeaf(at, file, from) && !Shelf.hasLeaf(at, file, to) && hasRoom(at, to);
        }

        /** The year is told: how many leaves are burnt, those that rumours gain not set against them. */
        int passYear(int letter) {
            long left = burntDown(shelf, letter);
            int lost = Shelf.allLeaves(shelf) - Shelf.allLeaves(left);
            shelf = rumoursGrown(left);
            years++;
            return lost;
        }

        /** The first half of a year: what the fire leaves. */
        long burntDown(long before, int letter) {
            long after = before;
            for (int file = 0; file < files; file++) {
                if (!Shelf.hasLeaf(before, file, letter)) {
                    continue;
                }
                if (isKept(before, file)) {
                    after = Shelf.keptOnceMore(after, file);
                } else {
                    after = Shelf.without(after, file, Kind.lostWith(kindOf(file), letter));
                }
            }
            return after;
        }

        /** Whether a file with a leaf under the letter that burns is kept, by what was ahead of the year. */
        private boolean isKept(long before, int file) {
            return Integer.bitCount(Shelf.leavesOf(before, file)) == 1
                && Shelf.keptOf(before, file) < Kind.mostKept(kindOf(file))
                && isPointedTo(before, file);
        }

        private boolean isPointedTo(long before, int file) {
            for (int other = 0; other < files; other++) {
                if (targetOf(other) == file && Shelf.leavesOf(before, other) != 0) {
                    return true;
                }
            }
            return false;
        }

        /** The second half of a year. */
        long rumoursGrown(long before) {
            long after = before;
            for (int file = 0; file < files; file++) {
                if (kindOf(file) == Kind.RUMOUR && Shelf.lives(after, file)) {
                    after = grown(after, file);
                }
            }
            return after;
        }

        private long grown(long before, int file) {
            for (int letter = 0; letter < LETTERS; letter++) {
                if (!Shelf.hasLeaf(before, file, letter) && Shelf.fullness(before, letter) < law.room) {
                    return Shelf.turned(before, file, letter);
                }
            }
            return before;
        }

        int pointingNowhere() {
            int set = 0;
            for (int file = 0; file < files; file++) {
                int to = targetOf(file);
                if (to != NONE && Shelf.lives(shelf, file) && !Shelf.lives(shelf, to)) {
                    set |= 1 << file;
                }
            }
            return set;
        }
    }

    /** What would be: years, copies and renamings that are tried, not done. */
    private static final class Foresight {
        private final Law law;
        private final Archive archive;

        Foresight(Law law, Archive archive) {
            this.law = law;
            this.archive = archive;
        }

        /** In how many of 10^years even cases the file lives then. */
        private int waysToLive(long shelf, int file, int yearsLeft) {
            if (!Shelf.lives(shelf, file)) {
                return 0;
            }
            if (yearsLeft <= 0) {
                return 1;
            }
            int ways = 0;
            // Letters without leaves all lead to the same next year, so that one is tried once for all of them.
            int idleTenths = 0;
            for (int letter = 0; letter < LETTERS; letter++) {
                int tenths = law.tenthsOf(letter);
                if (Shelf.fullness(shelf, letter) == 0) {
                    idleTenths += tenths;
                } else if (tenths > 0) {
                    long left = archive.burntDown(shelf, letter);
                    ways += tenths * waysToLive(archive.rumoursGrown(left), file, yearsLeft - 1);
                }
            }
            if (idleTenths > 0) {
                ways += idleTenths * waysToLive(archive.rumoursGrown(shelf), file, yearsLeft - 1);
            }
            return ways;
        }

        int bestCopy(int file, int years) {
            int best = NONE;
            int mostWays = waysToLive(archive.shelf, file, years);
            for (int letter = 0; letter < LETTERS; letter++) {
                if (archive.mayCopy(archive.shelf, file, letter)) {
                    int ways = waysToLive(Shelf.turned(archive.shelf, file, letter), file, years);
                    if (ways > mostWays) {
                        mostWays = ways;
                        best = letter;
                    }
                }
            }
            return best;
        }

        /** The least of the smallest sets of letters by which a new file of this kind is left for sure. */
        int fewestSure(int kind, int years) {
            for (int leaves = 1; leaves <= Kind.namesOf(kind); leaves++) {
                for (int set = 1; set < 1 << LETTERS; set++) {
                    if (Integer.bitCount(set) == leaves && isLeftForSure(kind, set, years)) {
                        return set;
                    }
                }
            }
            return NONE;
        }

        private boolean isLeftForSure(int kind, int set, int yearsLeft) {
            if (set == 0 || yearsLeft <= 0) {
                return set != 0;
            }
            for (int letter = 0; letter < LETTERS; letter++) {
                if (law.mayBurn(letter)) {
                    boolean hit = (set & (1 << letter)) != 0;
                    int left = hit ? set & ~Kind.lostWith(kind, letter) : set;
                    if (!isLeftForSure(kind, left, yearsLeft - 1)) {
                        return false;
                    }
                }
            }
            return true;
        }

        /**
         * A renaming takes away one leaf at most of those that are too many. And one can: a letter with too many has two
         * files at least that are not under a letter with less than it may have, and there is room. So it takes as many
         * renamings as there are leaves too many, if the letters together may have them all.
         */
        int fewestRenamings(int most) {
            int tooMany = 0;
            for (int letter = 0; letter < LETTERS; letter++) {
                tooMany += Math.max(0, Shelf.fullness(archive.shelf, letter) - most);
            }
            boolean placeForAll = Shelf.allLeaves(archive.shelf) <= LETTERS * most;
            return placeForAll && tooMany <= MOST_RENAMINGS ? tooMany : NONE;
        }

        int rowsThatFit() {
            return rowsFrom(archive.shelf, 0, NONE, NONE);
        }

        int onlyLetterIn(int year) {
            int only = NONE;
            for (int letter = 0; letter < LETTERS; letter++) {
                if (law.mayBurn(letter) && rowsFrom(archive.shelf, 0, year, letter) > 0) {
                    if (only != NONE) {
                        return NONE;
                    }
                    only = letter;
                }
            }
            return only;
        }

        /** How many rows of letters from this year on fit, that of one year being set (NONE: of none). */
        private int rowsFrom(long shelf, int year, int setYear, int setLetter) {
            if (year > 0 && !isAsTold(shelf, year - 1)) {
                return 0;
            }
            if (year >= archive.ashYears) {
                return 1;
            }
            if (year > setYear && nothingToldFrom(year)) {
                return power(law.lettersThatMayBurn(), archive.ashYears - year);
            }
            if (year == setYear) {
                long left = archive.burntDown(shelf, setLetter);
                return rowsFrom(archive.rumoursGrown(left), year + 1, setYear, setLetter);
            }
            int rows = 0;
            // As in waysToLive, letters without leaves are tried once for all of them.
            int idleLetters = 0;
            for (int letter = 0; letter < LETTERS; letter++) {
                if (!law.mayBurn(letter)) {
                    continue;
                }
                if (Shelf.fullness(shelf, letter) == 0) {
                    idleLetters++;
                } else {
                    long left = archive.burntDown(shelf, letter);
                    rows += rowsFrom(archive.rumoursGrown(left), year + 1, setYear, setLetter);
                }
            }
            if (idleLetters > 0) {
                rows += idleLetters * rowsFrom(archive.rumoursGrown(shelf), year + 1, setYear, setLetter);
            }
            return rows;
        }

        private boolean isAsTold(long shelf, int year) {
            int set = archive.toldOf(year);
            return set == NONE || set == Shelf.living(shelf);
        }

        private boolean nothingToldFrom(int first) {
            for (int year = first; year < archive.ashYears; year++) {
                if (archive.toldOf(year) != NONE) {
                    return false;
                }
            }
            return true;
        }
    }
}
