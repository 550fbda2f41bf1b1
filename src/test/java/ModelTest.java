import java.util.Random;

/** Runs of calls, the same every time, whose answers are set against those of the plain model. */
public final class ModelTest {
    private static final int RUNS = Integer.getInteger("runs", 400);
    private static final int CALLS = 150;
    private static final int[] FAR = {Integer.MIN_VALUE, Integer.MIN_VALUE + 1, -102, -2, -1, 6, 7, 10, 31, 32, 61, 64,
        127, 65536, Integer.MAX_VALUE - 1, Integer.MAX_VALUE};

    private final Due due = new Due();
    private Random random;
    private BurntLetters x;
    private Model model;
    private String run;

    public static void main(String[] args) {
        new ModelTest().all();
    }

    private void all() {
        for (int seed = 1; seed <= RUNS && due.wrong() < 20; seed++) {
            random = new Random(seed);
            x = new BurntLetters();
            model = new Model();
            run = "run " + seed + ": ";
            if (random.nextInt(10) > 0) {
                readLaw();
            }
            for (int i = 0; i < CALLS; i++) {
                step();
            }
            due.is(run + "digest at the end", x.digest(), model.digest());
        }
        due.end();
    }

    /** A number below the bound, or, seldom, one that is far from it. */
    private int number(int bound) {
        return random.nextInt(25) == 0 ? FAR[random.nextInt(FAR.length)] : random.nextInt(bound);
    }

    private void readLaw() {
        blank();
        for (char c : someLaw().toCharArray()) {
            letter(c);
        }
        due.is(run + "fault()", x.fault(), model.fault());
        due.is(run + "law()", x.law(), model.law());
    }

    private String someLaw() {
        int[] lots = new int[6];
        int letters = 2 + random.nextInt(5);
        int put = 0;
        while (put < 10) {
            int letter = random.nextInt(letters);
            if (lots[letter] < 9) {
                lots[letter]++;
                put++;
            }
        }
        int turn = random.nextInt(6);
        StringBuilder text = new StringBuilder();
        for (int i = 0; i < 6; i++) {
            text.append(lots[(i + turn) % 6]);
        }
        text.append(';').append(1 + random.nextInt(random.nextBoolean() ? 3 : 9));
        if (random.nextInt(8) == 0) {
            text.setCharAt(random.nextInt(8), "0123456789;:/x".charAt(random.nextInt(14)));
        }
        return text.toString();
    }

    private void step() {
        switch (random.nextInt(40)) {
            case 0 -> letter(random.nextInt(3) == 0 ? number(128) : '0' + random.nextInt(12));
            case 1 -> page();
            case 2 -> {
                if (random.nextInt(6) == 0) {
                    readLaw();
                }
            }
            case 3, 4, 5, 6, 7 -> file();
            case 8, 9, 10, 11, 12, 13 -> copy();
            case 14, 15, 16 -> rename();
            case 17, 18, 19 -> point();
            case 20, 21 -> burn();
            case 22, 23 -> tellAbout();
            case 24, 25 -> odds();
            case 26 -> where();
            case 27 -> sure();
            case 28 -> moving();
            case 29, 30, 31 -> ashes();
            case 32 -> fits();
            case 33 -> burnt();
            case 34, 35 -> years();
            case 36 -> images();
            case 37 -> due.is(run + "nowhere()", x.nowhere(), model.nowhere());
            case 38 -> digest();
            default -> counts();
        }
    }

    private void letter(int code) {
        due.is(run + "letter(" + code + ")", x.letter(code), model.letter(code));
    }

    private void blank() {
        due.is(run + "blank()", x.blank(), model.blank());
    }

    private void page() {
        due.is(run + "fault()", x.fault(), model.fault());
        due.is(run + "law()", x.law(), model.law());
        if (random.nextInt(3) == 0) {
            blank();
        }
    }

    private void file() {
        int kind = number(5);
        int letter = number(6);
        due.is(run + "file(" + kind + ", " + letter + ")", x.file(kind, letter), model.file(kind, letter));
    }

    private void copy() {
        int file = number(5);
        int letter = number(6);
        due.is(run + "copy(" + file + ", " + letter + ")", x.copy(file, letter), model.copy(file, letter));
    }

    private void rename() {
        int file = number(5);
        int from = number(6);
        int to = number(6);
        due.is(run + "rename(" + file + ", " + from + ", " + to + ")", x.rename(file, from, to),
            model.rename(file, from, to));
    }

    private void point() {
        int file = number(5);
        int to = number(6) - 1;
        due.is(run + "point(" + file + ", " + to + ")", x.point(file, to), model.point(file, to));
    }

    private void burn() {
        int letter = number(6);
        due.is(run + "burn(" + letter + ")", x.burn(letter), model.burn(letter));
    }

    private void tellAbout() {
        int file = number(5);
        int what = number(6);
        int kind = number(5);
        int letter = number(6);
        due.is(run + "about(" + file + ", " + what + ")", x.about(file, what), model.about(file, what));
        due.is(run + "as(" + file + ", " + kind + ")", x.as(file, kind), model.as(file, kind));
        due.is(run + "under(" + letter + ", " + what + ")", x.under(letter, what), model.under(letter, what));
    }

    private void odds() {
        int file = number(5);
        int years = number(5);
        int part = number(2);
        due.is(run + "odds(" + file + ", " + years + ", " + part + ")", x.odds(file, years, part),
            model.odds(file, years, part));
    }

    private void where() {
        int file = number(5);
        int years = number(random.nextInt(4) == 0 ? 5 : 4);
        due.is(run + "where(" + file + ", " + years + ")", x.where(file, years), model.where(file, years));
    }

    private void sure() {
        int kind = random.nextInt(5) == 0 ? number(6) : new int[] {0, 3, 4}[random.nextInt(3)];
        int years = number(random.nextInt(4) == 0 ? 5 : 4);
        int what = number(2);
        due.is(run + "sure(" + kind + ", " + years + ", " + what + ")", x.sure(kind, years, what),
            model.sure(kind, years, what));
    }

    private void moving() {
        int leaves = number(random.nextBoolean() ? 3 : 10);
        due.is(run + "moving(" + leaves + ")", x.moving(leaves), model.moving(leaves));
    }

    private void ashes() {
        if (random.nextInt(6) == 0) {
            due.is(run + "forget()", x.forget(), model.forget());
        }
        int set = random.nextInt(3) == 0 ? -1 : number(33);
        // Sets that come to pass: those that live behind some years.
        if (random.nextInt(3) > 0 && model.count(0) > 0) {
            set = model.years(1 + model.count(5), random.nextInt(3), 0);
        }
        due.is(run + "ashes(" + set + ")", x.ashes(set), model.ashes(set));
    }

    private void fits() {
        due.is(run + "fits()", x.fits(), model.fits());
    }

    private void burnt() {
        int year = random.nextInt(3) == 0 ? number(6) : random.nextInt(Math.max(1, model.count(5)));
        due.is(run + "burnt(" + year + ")", x.burnt(year), model.burnt(year));
    }

    private void years() {
        int years = random.nextInt(5) == 0 ? number(62) : 1 + number(8);
        int seed = random.nextBoolean() ? number(1000) : random.nextInt();
        int what = number(3);
        due.is(run + "years(" + years + ", " + seed + ", " + what + ")", x.years(years, seed, what),
            model.years(years, seed, what));
    }

    private void images() {
        if (random.nextBoolean()) {
            due.is(run + "image()", x.image(), model.image());
        } else {
            due.is(run + "restore()", x.restore(), model.restore());
        }
    }

    private void counts() {
        int what = number(10);
        due.is(run + "count(" + what + ")", x.count(what), model.count(what));
    }

    private void digest() {
        due.is(run + "digest()", x.digest(), model.digest());
    }
}
