import java.io.IOException;

/** The edges of promise 13: a year, what it burns, what is kept, how rumours grow. */
public final class EdgesOfYearTest {
    private static final int NONE = Edges.NONE, UNKNOWN = Edges.UNKNOWN, STATE = Edges.STATE;
    private static final int FILE = 0, RUMOUR = 1, DEED = 2, RIVER = 3, FLOOD = 4;
    private static Edges edges;

    public static void main(String[] args) throws IOException {
        edges = new Edges();
        burnTells();
        burnCountsYears();
        burnUnknown();
        burnState();
        burnRefusalsInOrder();
        keptIsItsOnlyLeaf();
        keptByWhatLivedAhead();
        keptByWhatBurnsWithIt();
        notKeptByWhatIsDead();
        notKeptByWhatPointsElsewhere();
        keptOnceByTwo();
        keptSoOften();
        keptForLife();
        floodTakesTheNext();
        floodTakesNoFurther();
        floodNotByTheNextAlone();
        floodTakesItsOwnAlone();
        floodKeptOrNot();
        rumourGrowsUnderTheLeast();
        rumoursGrowByNumber();
        rumourFindsNone();
        rumourKeptGrows();
        othersDoNotGrow();
        deadForEver();
        edges.end(13, 13);
    }

    private static BurntLetters law(String text) {
        return Due.under(text);
    }

    private static void burnTells() {
        edges.says(13, "In a YEAR a LETTER burns: how many LEAVES are burnt");
        for (int letter = 0; letter < 6; letter++) {
            BurntLetters x = law("222220;9");
            edges.is("burn(" + letter + ") of nothing", x.burn(letter), 0);
            for (int many = 0; many <= 5; many++) {
                x = law("222220;9");
                for (int i = 0; i < many; i++) {
                    x.file(FILE, letter);
                }
                edges.is("burn(" + letter + ") of " + many, x.burn(letter), many);
                edges.is("count(3)", x.count(3), 0);
            }
        }
        BurntLetters x = law("222220;9");
        for (int i = 0; i < 5; i++) {
            x.file(FLOOD, 5);
            x.copy(i, 0);
            x.copy(i, 3);
        }
        edges.is("burn(5) of five floods", x.burn(5), 10);
        edges.is("count(3)", x.count(3), 5);
        x = law("222220;9");
        x.file(RUMOUR, 0);
        x.file(RUMOUR, 1);
        edges.is("what rumours gain is not set against it", x.burn(0), 1);
        edges.is("count(3)", x.count(3), 2);
    }

    private static void burnCountsYears() {
        edges.says(13, "In a YEAR a LETTER burns");
        BurntLetters x = law("222220;9");
        x.file(FILE, 0);
        for (int year = 1; year <= 480; year++) {
            x.burn(year % 6);
            if (year % 60 == 1 || year == 480) {
                edges.is("count(4)", x.count(4), year);
            }
        }
    }

    private static void burnUnknown() {
        edges.says(13, "UNKNOWN");
        for (int letter : new int[] {-1, 6, Integer.MIN_VALUE, Integer.MAX_VALUE}) {
            edges.refused(UNKNOWN, "burn(" + letter + ")", Edges::busy, x -> x.burn(letter));
        }
    }

    private static void burnState() {
        edges.says(13, "STATE: no LAW");
        for (int letter = 0; letter < 6; letter++) {
            int its = letter;
            edges.refused(STATE, "burn(" + letter + ")", Edges::bare, x -> x.burn(its));
        }
    }

    private static void burnRefusalsInOrder() {
        edges.says(13, "UNKNOWN; STATE: no LAW");
        edges.refused(UNKNOWN, "no law, burn(-1)", Edges::bare, x -> x.burn(-1));
        edges.refused(UNKNOWN, "no law, burn(6)", Edges::bare, x -> x.burn(6));
    }

    private static void keptIsItsOnlyLeaf() {
        edges.says(Edges.TERMS, "it is its only LEAF");
        BurntLetters x = law("222220;9");
        x.file(FILE, 0);
        x.copy(0, 1);
        x.file(FILE, 5);
        x.point(1, 0);
        edges.is("one of two", x.burn(0), 1);
        edges.is("about(0, 1)", x.about(0, 1), 2);
        edges.is("about(0, 3)", x.about(0, 3), 0);
        edges.is("the only one", x.burn(1), 0);
        edges.is("about(0, 1)", x.about(0, 1), 2);
        edges.is("about(0, 3)", x.about(0, 3), 1);
    }

    private static void keptByWhatLivedAhead() {
        edges.says(Edges.TERMS, "some FILE that LIVED ahead of this YEAR POINTS to it");
        for (int from = 0; from < 5; from++) {
            for (int to = 0; to < 5; to++) {
                BurntLetters x = law("222220;9");
                for (int letter = 0; letter < 5; letter++) {
                    x.file(FILE, letter);
                }
                boolean taken = x.point(from, to) == NONE;
                edges.is(from + " to " + to + " taken", taken ? 1 : 0, from == to ? 0 : 1);
                edges.is(from + " to " + to + ", burn(" + to + ")", x.burn(to), taken ? 0 : 1);
                edges.is("about(" + to + ", 3)", x.about(to, 3), taken ? 1 : 0);
            }
        }
    }

    private static void keptByWhatBurnsWithIt() {
        edges.says(Edges.TERMS, "that LIVED ahead of this YEAR");
        for (int from = 0; from < 2; from++) {
            BurntLetters x = law("222220;9");
            x.file(FILE, 3);
            x.file(FILE, 3);
            x.point(from, 1 - from);
            edges.is("what points burns, too", x.burn(3), 1);
            edges.is("what is pointed to", x.about(1 - from, 4), 1);
            edges.is("what points", x.about(from, 4), 0);
        }
        BurntLetters x = law("222220;9");
        x.file(FILE, 3);
        x.file(DEED, 3);
        x.point(0, 1);
        x.point(1, 0);
        edges.is("each keeps the other", x.burn(3), 0);
        edges.is("only the deed again", x.burn(3), 1);
        edges.is("and not a third time", x.burn(3), 1);
        edges.is("kept", x.about(0, 3) * 10 + x.about(1, 3), 12);
    }

    private static void notKeptByWhatIsDead() {
        edges.says(Edges.TERMS, "some FILE that LIVED ahead");
        BurntLetters x = law("222220;9");
        x.file(FILE, 0);
        x.file(FILE, 1);
        x.point(0, 1);
        x.burn(0);
        edges.is("it still points", x.about(0, 2), 1);
        edges.is("but did not live", x.burn(1), 1);
        edges.is("about(1, 3)", x.about(1, 3), 0);
    }

    private static void notKeptByWhatPointsElsewhere() {
        edges.says(Edges.TERMS, "POINTS to it");
        BurntLetters x = law("222220;9");
        x.file(FILE, 0);
        x.file(FILE, 1);
        x.file(FILE, 2);
        x.point(0, 1);
        x.point(0, 2);
        edges.is("no more", x.burn(1), 1);
        edges.is("now this", x.burn(2), 0);
        x = law("222220;9");
        x.file(DEED, 0);
        x.file(FILE, 1);
        x.point(1, 0);
        x.burn(0);
        x.point(1, NONE);
        edges.is("to none", x.burn(0), 1);
    }

    private static void keptOnceByTwo() {
        edges.says(Edges.TERMS, "it has been KEPT once more then");
        BurntLetters x = law("222220;9");
        x.file(DEED, 0);
        for (int letter = 1; letter < 5; letter++) {
            x.file(FILE, letter);
            x.point(letter, 0);
        }
        for (int often = 1; often <= 2; often++) {
            edges.is("four point to it", x.burn(0), 0);
            edges.is("about(0, 3)", x.about(0, 3), often);
        }
        edges.is("and then", x.burn(0), 1);
        edges.is("about(0, 3) of the dead one", x.about(0, 3), 2);
    }

    private static void keptSoOften() {
        edges.says(Edges.TERMS, "it has not been KEPT yet (a DEED: not twice yet)");
        for (int kind = 0; kind < 5; kind++) {
            if (kind == RUMOUR) {
                continue;
            }
            BurntLetters x = law("222220;9");
            x.file(kind, 4);
            x.file(FILE, 5);
            x.point(1, 0);
            int most = kind == DEED ? 2 : 1;
            for (int often = 1; often <= most; often++) {
                edges.is("a " + kind + ", time " + often, x.burn(4), 0);
                edges.is("about(0, 3)", x.about(0, 3), often);
                edges.is("about(0, 1)", x.about(0, 1), 16);
            }
            edges.is("a " + kind + ", once too often", x.burn(4), 1);
            edges.is("about(0, 3)", x.about(0, 3), most);
            edges.is("about(0, 4)", x.about(0, 4), 0);
        }
    }

    private static void keptForLife() {
        edges.says(Edges.TERMS, "it has not been KEPT yet");
        BurntLetters x = law("222220;9");
        x.file(FILE, 0);
        x.file(FILE, 5);
        x.point(1, 0);
        x.burn(0);
        x.copy(0, 2);
        x.rename(0, 0, 3);
        x.point(1, NONE);
        x.point(1, 0);
        edges.is("one of two leaves", x.burn(2), 1);
        edges.is("the only one, not kept again", x.burn(3), 1);
        edges.is("about(0, 4)", x.about(0, 4), 0);
    }

    private static void floodTakesTheNext() {
        edges.says(Edges.TERMS, "that under the next LETTER (behind 5: 0) is burnt, too");
        for (int letter = 0; letter < 6; letter++) {
            BurntLetters x = law("222220;9");
            x.file(FLOOD, letter);
            x.copy(0, (letter + 1) % 6);
            x.copy(0, (letter + 3) % 6);
            edges.is("burn(" + letter + ")", x.burn(letter), 2);
            edges.is("about(0, 1)", x.about(0, 1), 1 << (letter + 3) % 6);
        }
    }

    private static void floodTakesNoFurther() {
        edges.says(Edges.TERMS, "that under the next LETTER");
        for (int letter = 0; letter < 6; letter++) {
            BurntLetters x = law("222220;9");
            x.file(FLOOD, letter);
            x.copy(0, (letter + 1) % 6);
            x.copy(0, (letter + 2) % 6);
            edges.is("three in a row, burn(" + letter + ")", x.burn(letter), 2);
            edges.is("about(0, 1)", x.about(0, 1), 1 << (letter + 2) % 6);
            x = law("222220;9");
            x.file(FLOOD, letter);
            x.copy(0, (letter + 5) % 6);
            x.copy(0, (letter + 2) % 6);
            edges.is("those beside the next, burn(" + letter + ")", x.burn(letter), 1);
            edges.is("about(0, 1)", x.about(0, 1), 1 << (letter + 5) % 6 | 1 << (letter + 2) % 6);
        }
    }

    private static void floodNotByTheNextAlone() {
        edges.says(Edges.TERMS, "Of a FLOOD whose LEAF under that LETTER is burnt");
        for (int letter = 0; letter < 6; letter++) {
            BurntLetters x = law("222220;9");
            x.file(FLOOD, (letter + 1) % 6);
            x.file(FILE, letter);
            edges.is("a leaf under the next alone, burn(" + letter + ")", x.burn(letter), 1);
            edges.is("about(0, 1)", x.about(0, 1), 1 << (letter + 1) % 6);
        }
    }

    private static void floodTakesItsOwnAlone() {
        edges.says(Edges.TERMS, "Of a FLOOD whose LEAF under that LETTER is burnt that under the next LETTER");
        for (int kind = 0; kind < 4; kind++) {
            BurntLetters x = law("222220;9");
            x.file(FLOOD, 5);
            x.file(kind, 0);
            x.file(kind, 5);
            x.copy(2, 0);
            edges.is("kind " + kind + ", burn(5)", x.burn(5), 2);
            edges.is("kind " + kind + ", a leaf under 0", x.about(1, 1) & 1, 1);
            edges.is("kind " + kind + ", its other leaf", x.about(2, 1) & 1, 1);
        }
    }

    private static void floodKeptOrNot() {
        edges.says(Edges.TERMS, "it is its only LEAF");
        BurntLetters x = law("222220;9");
        x.file(FLOOD, 5);
        x.copy(0, 0);
        x.file(FILE, 3);
        x.point(1, 0);
        edges.is("two leaves, both burnt", x.burn(5), 2);
        edges.is("about(0, 3)", x.about(0, 3), 0);
        edges.is("about(0, 4)", x.about(0, 4), 0);
        x = law("222220;9");
        x.file(FLOOD, 0);
        x.copy(0, 5);
        x.file(FILE, 3);
        x.point(1, 0);
        edges.is("behind 0 is not 5", x.burn(0), 1);
        edges.is("its only one now, kept", x.burn(5), 0);
        edges.is("about(0, 3)", x.about(0, 3), 1);
    }

    private static void rumourGrowsUnderTheLeast() {
        edges.says(Edges.TERMS, "has a LEAF more, under the least LETTER where it has none and there is ROOM");
        BurntLetters x = law("222220;1");
        x.file(RUMOUR, 5);
        x.file(FILE, 4);
        int[] burns = {3, 3, 3, 4};
        int[] leaves = {33, 35, 39, 47};
        for (int year = 0; year < burns.length; year++) {
            x.burn(burns[year]);
            edges.is("about(0, 1) behind year " + year, x.about(0, 1), leaves[year]);
        }
        edges.is("its own letter burns", x.burn(2), 1);
        edges.is("and is the least again", x.about(0, 1), 47);
        edges.is("a letter of none burns", x.burn(4), 0);
        edges.is("all six", x.about(0, 1), 63);
        for (int letter = 0; letter < 6; letter++) {
            edges.is("burn(" + letter + ") of all six", x.burn(letter), 1);
            edges.is("all six again", x.about(0, 1), 63);
        }
        x = law("222220;2");
        x.file(RUMOUR, 2);
        x.file(FILE, 0);
        x.file(FILE, 0);
        x.file(FILE, 1);
        x.burn(5);
        edges.is("0 is full, 1 has room for the last one", x.about(0, 1), 6);
    }

    private static void rumoursGrowByNumber() {
        edges.says(Edges.TERMS, "each RUMOUR that LIVES, by number");
        BurntLetters x = law("222220;1");
        x.file(RUMOUR, 5);
        x.file(RUMOUR, 4);
        x.file(RUMOUR, 3);
        x.burn(0);
        edges.is("about(0, 1)", x.about(0, 1), 33);
        edges.is("about(1, 1)", x.about(1, 1), 18);
        edges.is("about(2, 1)", x.about(2, 1), 12);
        x = law("222220;1");
        x.file(RUMOUR, 0);
        x.file(RUMOUR, 1);
        for (int letter = 2; letter < 6; letter++) {
            x.copy(1, letter);
        }
        edges.is("the second's leaf", x.burn(3), 1);
        edges.is("goes to the first", x.about(0, 1), 9);
        edges.is("and not back", x.about(1, 1), 54);
        edges.is("all letters are full", x.count(3), 6);
        edges.is("about(0, 3)", x.about(0, 3), 0);
        edges.is("about(1, 3)", x.about(1, 3), 0);
    }

    private static void rumourFindsNone() {
        edges.says(Edges.TERMS, "if there is one");
        BurntLetters x = law("222220;1");
        x.file(RUMOUR, 5);
        x.file(FILE, 0);
        x.copy(1, 1);
        x.file(FILE, 2);
        x.copy(2, 3);
        x.file(FILE, 4);
        x.point(1, 3);
        edges.is("it is kept, all letters are full", x.burn(4), 0);
        edges.is("about(0, 1)", x.about(0, 1), 32);
        edges.is("about(0, 3)", x.about(0, 3), 0);
        edges.is("about(3, 3)", x.about(3, 3), 1);
        edges.is("count(3)", x.count(3), 6);
        edges.is("it is burnt", x.burn(4), 1);
        edges.is("about(0, 1) then", x.about(0, 1), 48);
        edges.is("count(3) then", x.count(3), 6);
    }

    private static void rumourKeptGrows() {
        edges.says(Edges.TERMS, "each RUMOUR that LIVES");
        BurntLetters x = law("222220;9");
        x.file(RUMOUR, 0);
        x.file(FILE, 3);
        x.point(1, 0);
        edges.is("kept", x.burn(0), 0);
        edges.is("about(0, 3)", x.about(0, 3), 1);
        edges.is("and one leaf more", x.about(0, 1), 3);
        x = law("222220;9");
        x.file(RUMOUR, 0);
        edges.is("burnt", x.burn(0), 1);
        edges.is("and none more", x.about(0, 1), 0);
    }

    private static void othersDoNotGrow() {
        edges.says(Edges.TERMS, "each RUMOUR");
        for (int kind = 0; kind < 5; kind++) {
            BurntLetters x = law("222220;9");
            x.file(kind, 3);
            x.burn(0);
            edges.is("a " + kind, x.about(0, 1), kind == RUMOUR ? 9 : 8);
        }
    }

    private static void deadForEver() {
        edges.says(Edges.TERMS, "what does not LIVE any more has none ever again");
        for (int kind = 0; kind < 5; kind++) {
            BurntLetters x = law("222220;9");
            x.file(kind, 0);
            x.file(RIVER, 1);
            x.burn(0);
            x.point(1, 0);
            for (int letter = 0; letter < 6; letter++) {
                edges.is("a dead " + kind + ", copy(0, " + letter + ")", x.copy(0, letter), STATE);
                edges.is("rename", x.rename(0, letter, (letter + 1) % 6), STATE);
                x.burn(letter);
                edges.is("about(0, 1)", x.about(0, 1), 0);
                edges.is("about(0, 3)", x.about(0, 3), 0);
            }
        }
    }
}
