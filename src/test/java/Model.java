import java.math.BigInteger;
import java.util.ArrayDeque;
import java.util.ArrayList;
import java.util.HashMap;
import java.util.List;
import java.util.Map;
import java.util.Queue;
import java.util.TreeSet;

/**
 * The document again, as plainly as it can be written: sets and lists, every row of letters tried whole, renamings
 * searched one behind the other. It shares no thought with the program but the document.
 */
final class Model {
    private static final int NONE = -1, UNKNOWN = -101, OUTSIDE = -102, STATE = -103, FULL = -104;

    static final class Leafed {
        int kind;
        TreeSet<Integer> leaves = new TreeSet<>();
        int to = NONE;
        int kept;

        Leafed twin() {
            Leafed other = new Leafed();
            other.kind = kind;
            other.leaves.addAll(leaves);
            other.to = to;
            other.kept = kept;
            return other;
        }

        boolean lives() {
            return !leaves.isEmpty();
        }

        int names() {
            switch (kind) {
                case 1:
                    return 6;
                case 3:
                case 4:
                    return 3;
                default:
                    return 2;
            }
        }

        int bits() {
            int bits = 0;
            for (int letter : leaves) {
                bits |= 1 << letter;
            }
            return bits;
        }
    }

    private String page = "";
    private int[] lots = new int[6];
    private int room;
    private List<Leafed> files = new ArrayList<>();
    private int yearsGone;
    private List<Integer> told = new ArrayList<>();
    private List<Leafed> imageFiles;
    private int imageYears;
    private List<Integer> imageTold;
    private int laws, sures, movings;

    private static List<Leafed> twins(List<Leafed> all) {
        List<Leafed> twins = new ArrayList<>();
        for (Leafed f : all) {
            twins.add(f.twin());
        }
        return twins;
    }

    private static int fullness(List<Leafed> all, int letter) {
        int many = 0;
        for (Leafed f : all) {
            if (f.leaves.contains(letter)) {
                many++;
            }
        }
        return many;
    }

    private static int livingBits(List<Leafed> all) {
        int bits = 0;
        for (int i = 0; i < all.size(); i++) {
            if (all.get(i).lives()) {
                bits |= 1 << i;
            }
        }
        return bits;
    }

    private static int leaves(List<Leafed> all) {
        int many = 0;
        for (Leafed f : all) {
            many += f.leaves.size();
        }
        return many;
    }

    /** A year, done to these files: how many leaves are burnt. */
    private int year(List<Leafed> all, int letter) {
        List<Leafed> ahead = twins(all);
        int burnt = 0;
        for (int i = 0; i < all.size(); i++) {
            Leafed f = all.get(i);
            if (!f.leaves.contains(letter)) {
                continue;
            }
            boolean pointed = false;
            for (Leafed other : ahead) {
                pointed |= other.lives() && other.to == i;
            }
            if (f.leaves.size() == 1 && pointed && f.kept < (f.kind == 2 ? 2 : 1)) {
                f.kept++;
                continue;
            }
            f.leaves.remove(letter);
            burnt++;
            if (f.kind == 4 && f.leaves.remove((letter + 1) % 6)) {
                burnt++;
            }
        }
        for (Leafed f : all) {
            if (f.kind == 1 && f.lives()) {
                for (int l = 0; l < 6; l++) {
                    if (!f.leaves.contains(l) && fullness(all, l) < room) {
                        f.leaves.add(l);
                        break;
                    }
                }
            }
        }
        return burnt;
    }

    /** All rows of so many letters, each with lots. */
    private List<int[]> rows(int years) {
        List<int[]> rows = new ArrayList<>();
        int all = (int) Math.pow(6, years);
        for (int number = 0; number < all; number++) {
            int[] row = new int[years];
            int rest = number;
            boolean may = true;
            for (int i = 0; i < years; i++) {
                row[i] = rest % 6;
                rest /= 6;
                may &= lots[row[i]] > 0;
            }
            if (may) {
                rows.add(row);
            }
        }
        return rows;
    }

    private BigInteger waysAlive(List<Leafed> all, int file, int years) {
        BigInteger ways = BigInteger.ZERO;
        for (int[] row : rows(years)) {
            List<Leafed> then = twins(all);
            BigInteger weight = BigInteger.ONE;
            for (int letter : row) {
                year(then, letter);
                weight = weight.multiply(BigInteger.valueOf(lots[letter]));
            }
            if (then.get(file).lives()) {
                ways = ways.add(weight);
            }
        }
        return ways;
    }

    int letter(int code) {
        if (code < 1 || code > 126) {
            return OUTSIDE;
        }
        if (page.length() == 10) {
            return FULL;
        }
        page += (char) code;
        return page.length();
    }

    int blank() {
        int had = page.length();
        page = "";
        return had;
    }

    int fault() {
        for (int n = 1; n <= page.length(); n++) {
            if (!mayBegin(page.substring(0, n))) {
                return n - 1;
            }
        }
        return page.length();
    }

    private static boolean mayBegin(String text) {
        String lots = text.substring(0, Math.min(6, text.length()));
        if (!lots.matches("[0-9]*")) {
            return false;
        }
        int sum = lots.chars().map(c -> c - '0').sum();
        if (sum > 10 || (lots.length() == 6 && sum != 10)) {
            return false;
        }
        return text.length() <= 6 || text.substring(6).matches(";[1-9]?");
    }

    int law() {
        if (page.length() != 8 || fault() != 8) {
            return STATE;
        }
        for (int i = 0; i < 6; i++) {
            lots[i] = page.charAt(i) - '0';
        }
        room = page.charAt(7) - '0';
        page = "";
        files = new ArrayList<>();
        told = new ArrayList<>();
        yearsGone = 0;
        imageFiles = null;
        laws++;
        return room;
    }

    private static boolean noLetter(int letter) {
        return letter < 0 || letter > 5;
    }

    private boolean noFile(int file) {
        return file < 0 || file >= files.size();
    }

    int under(int letter, int what) {
        if (noLetter(letter)) {
            return UNKNOWN;
        }
        if (what == 0) {
            return lots[letter];
        }
        return what == 1 ? fullness(files, letter) : OUTSIDE;
    }

    int file(int kind, int letter) {
        if (kind < 0 || kind > 4) {
            return OUTSIDE;
        }
        if (noLetter(letter)) {
            return UNKNOWN;
        }
        if (room == 0 || fullness(files, letter) >= room) {
            return STATE;
        }
        if (files.size() == 5) {
            return FULL;
        }
        Leafed f = new Leafed();
        f.kind = kind;
        f.leaves.add(letter);
        files.add(f);
        return files.size() - 1;
    }

    int about(int file, int what) {
        if (noFile(file)) {
            return UNKNOWN;
        }
        Leafed f = files.get(file);
        int[] answers = {f.kind, f.bits(), f.to, f.kept, f.lives() ? 1 : 0, f.names()};
        return what < 0 || what > 5 ? OUTSIDE : answers[what];
    }

    int as(int file, int kind) {
        if (noFile(file)) {
            return UNKNOWN;
        }
        if (kind < 0 || kind > 4) {
            return OUTSIDE;
        }
        int own = files.get(file).kind;
        return kind == 0 || kind == own || (own == 4 && kind == 3) ? file : NONE;
    }

    private boolean mayCopy(Leafed f, int letter) {
        return f.lives() && !f.leaves.contains(letter) && f.leaves.size() < f.names()
            && fullness(files, letter) < room;
    }

    int copy(int file, int letter) {
        if (noFile(file) || noLetter(letter)) {
            return UNKNOWN;
        }
        Leafed f = files.get(file);
        if (!mayCopy(f, letter)) {
            return STATE;
        }
        f.leaves.add(letter);
        return f.leaves.size();
    }

    int rename(int file, int from, int to) {
        if (noFile(file) || noLetter(from) || noLetter(to) || from == to) {
            return UNKNOWN;
        }
        Leafed f = files.get(file);
        if (!f.leaves.contains(from) || f.leaves.contains(to) || fullness(files, to) >= room) {
            return STATE;
        }
        f.leaves.remove(from);
        f.leaves.add(to);
        return fullness(files, to);
    }

    int point(int file, int to) {
        if (noFile(file) || (to != NONE && noFile(to)) || file == to) {
            return UNKNOWN;
        }
        Leafed f = files.get(file);
        if (!f.lives()) {
            return STATE;
        }
        int before = f.to;
        f.to = to;
        return before;
    }

    int burn(int letter) {
        if (noLetter(letter)) {
            return UNKNOWN;
        }
        if (room == 0) {
            return STATE;
        }
        yearsGone++;
        return year(files, letter);
    }

    int odds(int file, int years, int part) {
        if (noFile(file)) {
            return UNKNOWN;
        }
        if (years < 0 || years > 4 || part < 0 || part > 1) {
            return OUTSIDE;
        }
        BigInteger above = waysAlive(files, file, years);
        BigInteger below = BigInteger.TEN.pow(years);
        BigInteger common = above.gcd(below);
        return (part == 0 ? above : below).divide(common).intValueExact();
    }

    int where(int file, int years) {
        if (noFile(file)) {
            return UNKNOWN;
        }
        if (years < 0 || years > 4) {
            return OUTSIDE;
        }
        BigInteger most = waysAlive(files, file, years);
        int best = NONE;
        for (int letter = 0; letter < 6; letter++) {
            if (mayCopy(files.get(file), letter)) {
                List<Leafed> then = twins(files);
                then.get(file).leaves.add(letter);
                BigInteger ways = waysAlive(then, file, years);
                if (ways.compareTo(most) > 0) {
                    most = ways;
                    best = letter;
                }
            }
        }
        return best;
    }

    int sure(int kind, int years, int what) {
        if ((kind != 0 && kind != 3 && kind != 4) || years < 0 || years > 4 || what < 0 || what > 1) {
            return OUTSIDE;
        }
        if (room == 0 || sures == 30) {
            return STATE;
        }
        sures++;
        int fewest = 7;
        int set = NONE;
        for (int bits = 1; bits < 64; bits++) {
            Leafed f = new Leafed();
            f.kind = kind;
            for (int letter = 0; letter < 6; letter++) {
                if ((bits >> letter & 1) == 1) {
                    f.leaves.add(letter);
                }
            }
            if (f.leaves.size() > f.names() || f.leaves.size() >= fewest) {
                continue;
            }
            List<Leafed> alone = List.of(f);
            if (waysAlive(alone, 0, years).equals(BigInteger.TEN.pow(years))) {
                fewest = f.leaves.size();
                set = bits;
            }
        }
        if (set == NONE) {
            return NONE;
        }
        return what == 0 ? fewest : set;
    }

    int nowhere() {
        int bits = 0;
        for (int i = 0; i < files.size(); i++) {
            Leafed f = files.get(i);
            if (f.lives() && f.to != NONE && !files.get(f.to).lives()) {
                bits |= 1 << i;
            }
        }
        return bits;
    }

    int moving(int leaves) {
        if (leaves < 1 || leaves > 9) {
            return OUTSIDE;
        }
        if (room == 0 || movings == 10) {
            return STATE;
        }
        movings++;
        Map<String, Integer> steps = new HashMap<>();
        Queue<List<Leafed>> next = new ArrayDeque<>();
        next.add(twins(files));
        steps.put(key(files), 0);
        while (!next.isEmpty()) {
            List<Leafed> at = next.remove();
            int done = steps.get(key(at));
            boolean settled = true;
            for (int letter = 0; letter < 6; letter++) {
                settled &= fullness(at, letter) <= leaves;
            }
            if (settled) {
                return done;
            }
            if (done == 3) {
                continue;
            }
            for (int i = 0; i < at.size(); i++) {
                for (int from : at.get(i).leaves) {
                    for (int to = 0; to < 6; to++) {
                        if (at.get(i).leaves.contains(to) || fullness(at, to) >= room) {
                            continue;
                        }
                        List<Leafed> then = twins(at);
                        then.get(i).leaves.remove(from);
                        then.get(i).leaves.add(to);
                        if (steps.putIfAbsent(key(then), done + 1) == null) {
                            next.add(then);
                        }
                    }
                }
            }
        }
        return NONE;
    }

    private static String key(List<Leafed> all) {
        StringBuilder key = new StringBuilder();
        for (Leafed f : all) {
            key.append(f.leaves);
        }
        return key.toString();
    }

    int ashes(int set) {
        if (set != NONE && (set < 0 || set > (1 << files.size()) - 1)) {
            return OUTSIDE;
        }
        if (told.size() == 5) {
            return FULL;
        }
        told.add(set);
        return told.size();
    }

    int forget() {
        int had = told.size();
        told.clear();
        return had;
    }

    private List<int[]> fitting() {
        List<int[]> fitting = new ArrayList<>();
        for (int[] row : rows(told.size())) {
            List<Leafed> then = twins(files);
            boolean fits = true;
            for (int i = 0; i < row.length; i++) {
                year(then, row[i]);
                fits &= told.get(i) == NONE || told.get(i) == livingBits(then);
            }
            if (fits) {
                fitting.add(row);
            }
        }
        return fitting;
    }

    int fits() {
        return room == 0 ? STATE : fitting().size();
    }

    int burnt(int year) {
        if (year < 0 || year >= told.size()) {
            return UNKNOWN;
        }
        if (room == 0) {
            return STATE;
        }
        TreeSet<Integer> letters = new TreeSet<>();
        for (int[] row : fitting()) {
            letters.add(row[year]);
        }
        return letters.size() == 1 ? letters.first() : NONE;
    }

    int years(int years, int seed, int what) {
        if (years < 1 || years > 60 || seed < 0 || what < 0 || what > 2) {
            return OUTSIDE;
        }
        if (room == 0) {
            return STATE;
        }
        StringBuilder urn = new StringBuilder();
        for (int letter = 0; letter < 6; letter++) {
            for (int i = 0; i < lots[letter]; i++) {
                urn.append(letter);
            }
        }
        BigInteger at = BigInteger.valueOf(seed);
        List<Leafed> then = twins(files);
        for (int i = 0; i < years; i++) {
            at = at.multiply(BigInteger.valueOf(1103515245)).add(BigInteger.valueOf(12345))
                .mod(BigInteger.ONE.shiftLeft(31));
            int draw = at.divide(BigInteger.valueOf(65536)).mod(BigInteger.TEN).intValueExact();
            year(then, urn.charAt(draw) - '0');
        }
        int[] answers = {livingBits(then), leaves(then), at.intValueExact()};
        return answers[what];
    }

    int image() {
        if (room == 0) {
            return STATE;
        }
        imageFiles = twins(files);
        imageYears = yearsGone;
        imageTold = new ArrayList<>(told);
        return yearsGone;
    }

    int restore() {
        if (imageFiles == null) {
            return STATE;
        }
        files = twins(imageFiles);
        yearsGone = imageYears;
        told = new ArrayList<>(imageTold);
        return yearsGone;
    }

    int count(int what) {
        int[] answers = {room, files.size(), Integer.bitCount(livingBits(files)), leaves(files), yearsGone, told.size(),
            page.length(), laws, sures, movings};
        return what < 0 || what > 9 ? OUTSIDE : answers[what];
    }

    long digest() {
        List<Long> numbers = new ArrayList<>();
        for (int letter = 0; letter < 6; letter++) {
            numbers.add((long) under(letter, 0));
            numbers.add((long) under(letter, 1));
        }
        for (int file = 0; file < files.size(); file++) {
            for (int what = 0; what < 6; what++) {
                numbers.add((long) about(file, what));
            }
            numbers.add((long) odds(file, 2, 0));
            numbers.add((long) odds(file, 2, 1));
            numbers.add((long) where(file, 2));
        }
        numbers.add((long) nowhere());
        if (room != 0) {
            numbers.add((long) fits());
        }
        for (char c : page.toCharArray()) {
            numbers.add((long) c);
        }
        for (int what = 0; what < 10; what++) {
            numbers.add((long) count(what));
        }
        long h = 769;
        for (long number : numbers) {
            h = 31 * h + number;
        }
        return h;
    }
}
