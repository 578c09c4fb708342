import java.util.function.Supplier;

/** The bounds that promises 1 to 8 name: a new object, the slope, things, the tape, what is counted. */
public final class BoundsPromises1To8Test {
    private static final int BAD = -1, FULL = -3, NONE = -4, NULL = -11;
    private static final int MOST = Integer.MAX_VALUE, LEAST = Integer.MIN_VALUE;
    private static final Supplier<VillageBall> ROLLING = Villages::rolling;
    private static final Supplier<VillageBall> NEW = VillageBall::new;
    private static final Supplier<VillageBall> FULL_ONE = Villages::full;

    public static void main(String[] args) throws Exception {
        Bounds.run(BoundsPromises1To8Test.class);
    }

    // ---- promise 1

    @Says(at = "Promise 1", text = "A slope, no THINGS.")
    private static void promise01_nothingIsInANewOne() {
        VillageBall x = new VillageBall();
        Bounds.dueAll("count", Check.counts(x), 12, 0, 0, 1, 0, 1, 0, 24, 0);
        Bounds.due("no thing", x.of(0, 0), BAD);
        for (int c = 0; c < 12; c++) {
            Bounds.due("nothing lies at " + c, x.at(c, 2), 0);
        }
        Bounds.due("nothing to be undone", x.undo(), NONE);
        Bounds.due("no image", x.restore(), NONE);
        Bounds.due("no letter", x.village(), -20);
        for (int s = 0; s < 4; s++) {
            Bounds.due("nothing in sheet " + s, x.drop(s), NULL);
        }
    }

    @Says(at = "Promise 1", text = "A slope, no THINGS.")
    private static void promise01_oneObjectKnowsNothingOfAnother() {
        Bounds.asked("new, when others have been used", NEW, x -> {
            Villages.resting().melt(24);
            Villages.full().thing(0, 0, 0);
            return x.count(1);
        }, 0);
    }

    // ---- promise 2

    @Says(at = "Promise 2", text = "BAD.")
    private static void promise02_BAD_noSuchCell() {
        Bounds.bad("cell, drop", ROLLING, (x, c) -> x.cell(c, 0, 1), -1, 4, 12, 23, 24, MOST, LEAST);
        Bounds.bad("cell, snow", ROLLING, (x, c) -> x.cell(c, 1, 1), -1, 4, 12, 23, 24, MOST, LEAST);
        Bounds.bad("cell of 12", NEW, (x, c) -> x.cell(c, 0, 1), -1, 12, 23, 24);
    }

    @Says(at = "Promise 2", text = "BAD.")
    private static void promise02_BAD_noSuchWhat() {
        Bounds.bad("what", ROLLING, (x, what) -> x.cell(0, what, 1), -1, 2, MOST, LEAST);
    }

    @Says(at = "Promise 2", text = "BAD.")
    private static void promise02_BAD_vTooSmallOrTooLarge() {
        Bounds.bad("drop", ROLLING, (x, v) -> x.cell(0, 0, v), -1, 10, MOST, LEAST);
        Bounds.bad("snow", ROLLING, (x, v) -> x.cell(0, 1, v), -1, 10, MOST, LEAST);
    }

    @Says(at = "Promise 2", text = "Of a CELL: DROP (what 0), SNOW (1) becomes v: what it was.")
    private static void promise02_firstAndLastCell_leastAndMost() {
        VillageBall x = Check.ofText(Check.cells("45", 24));
        for (int c : new int[] {0, 23}) {
            Bounds.due("drop 0", x.cell(c, 0, 0), 4);
            Bounds.due("drop 9", x.cell(c, 0, 9), 0);
            Bounds.due("drop", x.at(c, 0), 9);
            Bounds.due("snow 0", x.cell(c, 1, 0), 5);
            Bounds.due("snow 9", x.cell(c, 1, 9), 0);
            Bounds.due("snow", x.at(c, 1), 9);
        }
        Bounds.due("the next ones are as they were", x.at(1, 0) * 1000 + x.at(1, 1) * 100 + x.at(22, 0) * 10
            + x.at(22, 1), 4545);
        Bounds.due("the same once more", x.cell(0, 0, 9), 9);
    }

    // ---- promise 3

    @Says(at = "Promise 3", text = "BAD.")
    private static void promise03_BAD_noSuchCell() {
        for (int what = 0; what <= 2; what++) {
            int w = what;
            Bounds.bad("at, what " + w, ROLLING, (x, c) -> x.at(c, w), -1, 4, 12, 24, MOST, LEAST);
        }
    }

    @Says(at = "Promise 3", text = "BAD.")
    private static void promise03_BAD_noSuchWhat() {
        Bounds.bad("at", ROLLING, (x, what) -> x.at(0, what), -1, 3, MOST, LEAST);
    }

    @Says(at = "Promise 3", text = "2 THINGS that LIE there (a set)")
    private static void promise03_noneLies_allLie() {
        VillageBall x = Check.ofText(Check.cells("00", 24) + ";" + Check.cells("p1@23", 8));
        Bounds.due("none", x.at(22, 2), 0);
        Bounds.due("all at the last", x.at(23, 2), 255);
        VillageBall taken = Villages.stepped("l1@0,p9@0", 1, 1);
        Bounds.due("what is taken up lies there no more", taken.at(0, 2), 2);
        taken.go(1, 1);
        Bounds.due("nor when it is back", taken.at(0, 2), 2);
    }

    // ---- promise 4

    @Says(at = "Promise 4", text = "BAD; FULL: 8.")
    private static void promise04_BAD_noSuchKind() {
        Bounds.bad("kind", ROLLING, (x, kind) -> x.thing(kind, 1, 1), -1, 5, MOST, LEAST);
    }

    @Says(at = "Promise 4", text = "BAD; FULL: 8.")
    private static void promise04_BAD_heavyTooSmallOrTooLarge() {
        Bounds.bad("heavy", ROLLING, (x, heavy) -> x.thing(1, heavy, 1), -1, 10, MOST, LEAST);
    }

    @Says(at = "Promise 4", text = "BAD; FULL: 8.")
    private static void promise04_BAD_noSuchCell() {
        Bounds.bad("cell", ROLLING, (x, cell) -> x.thing(1, 1, cell), -1, 4, 12, 24, MOST, LEAST);
    }

    @Says(at = "Promise 4", text = "BAD; FULL: 8.")
    private static void promise04_FULL_eightThereAre() {
        VillageBall x = new VillageBall();
        for (int t = 0; t < 8; t++) {
            Bounds.due("thing " + t, x.thing(t % 5, 9 - t, t), t);
        }
        Bounds.due("a ninth", x.thing(0, 0, 0), FULL);
        Bounds.due("still eight", x.count(1), 8);
        Bounds.dueAll("the eighth is as it was", Check.ofThing(x, 7), 2, 2, 7, NONE, 0);
        Bounds.asked("a ninth", FULL_ONE, y -> y.thing(4, 9, 3), FULL);
    }

    @Says(at = "Promise 4", text = "BAD; FULL: 8.")
    private static void promise04_FULL_alsoWhenAllAreBack() {
        VillageBall x = Villages.stepped(Check.cells("l0@0", 8), 1, 1);
        x.go(1, 1);
        Bounds.due("all are back", x.of(7, 4), 1);
        Bounds.due("a ninth", x.thing(0, 0, 0), FULL);
    }

    @Says(at = "Promise 4", text = "A THING that LIES at a CELL: its number.")
    private static void promise04_leastAndMostOfAll() {
        VillageBall x = Check.ofText(Check.cells("00", 24));
        Bounds.due("the least", x.thing(0, 0, 0), 0);
        Bounds.due("the most", x.thing(4, 9, 23), 1);
        Bounds.dueAll("the least", Check.ofThing(x, 0), 0, 0, 0, NONE, 0);
        Bounds.dueAll("the most", Check.ofThing(x, 1), 4, 9, 23, NONE, 0);
    }

    @Says(at = "Promise 4", text = "A THING that LIES at a CELL: its number.")
    private static void promise04_whereTheBallIs() {
        VillageBall x = Villages.level(4);
        x.go(1, 1);
        x.steps(1);
        x.thing(1, 5, 1);
        x.thing(1, 5, 0);
        x.steps(1);
        Bounds.due("met there, not behind", x.count(6), 1);
    }

    // ---- promise 5

    @Says(at = "Promise 5", text = "BAD.")
    private static void promise05_BAD_noSuchThing() {
        for (int what = 0; what <= 4; what++) {
            int w = what;
            Bounds.bad("of, what " + w, ROLLING, (x, t) -> x.of(t, w), -1, 4, 7, 8, MOST, LEAST);
            Bounds.bad("of, none there", NEW, (x, t) -> x.of(t, w), -1, 0, 7);
        }
        Bounds.bad("of, all there", FULL_ONE, (x, t) -> x.of(t, 0), -1, 8);
    }

    @Says(at = "Promise 5", text = "BAD.")
    private static void promise05_BAD_noSuchWhat() {
        Bounds.bad("of", ROLLING, (x, what) -> x.of(0, what), -1, 5, MOST, LEAST);
    }

    @Says(at = "Promise 5", text = "2 the CELL where it LIES (NONE: it does not)")
    private static void promise05_NONE_itDoesNotLie() {
        VillageBall x = Villages.stepped("l1@0,p9@9,p9@0", 1, 10);
        Bounds.due("in the ball", x.of(0, 2), NONE);
        Bounds.due("at the last cell", x.of(1, 2), 9);
        Bounds.due("at the first cell", x.of(2, 2), 0);
        x.go(1, 10);
        Bounds.due("back", x.of(0, 2), NONE);
    }

    @Says(at = "Promise 5", text = "3 its place in the order IN THE BALL (0 on; NONE)")
    private static void promise05_NONE_itIsNotInTheBall() {
        VillageBall x = Villages.stepped("p9@9,l1@0," + Check.cells("l0@0", 6), 1, 1);
        Bounds.due("it lies", x.of(0, 3), NONE);
        for (int t = 1; t < 8; t++) {
            Bounds.due("in the ball", x.of(t, 3), t - 1);
        }
        x.go(1, 1);
        for (int t = 0; t < 8; t++) {
            Bounds.due("it lies, or is back", x.of(t, 3), NONE);
        }
    }

    @Says(at = "Promise 5", text = "4 whether BACK (1, 0)")
    private static void promise05_backOnlyWhenBack() {
        VillageBall x = Villages.stepped("l1@0,p9@9", 1, 0);
        Bounds.due("in the ball", x.of(0, 4), 0);
        Bounds.due("it lies", x.of(1, 4), 0);
        x.melt(1);
        Bounds.due("back by a day", x.of(0, 4), 1);
        x.undo();
        Bounds.due("undone", x.of(0, 4), 0);
        x.go(1, 0);
        Bounds.due("back by letting go", x.of(0, 4), 1);
        Bounds.due("it lies on", x.of(1, 4), 0);
    }

    // ---- promise 6

    @Says(at = "Promise 6", text = "BAD: not 32 .. 126")
    private static void promise06_BAD_noLetter() {
        Bounds.bad("type", ROLLING, VillageBall::type, 31, 127, 0, -1, -32, 10, 128, 255, 256 + 49, 65536 + 49, MOST, LEAST);
        Bounds.bad("type, full", FULL_ONE, VillageBall::type, 31, 127);
    }

    @Says(at = "Promise 6", text = "BAD: not 32 .. 126")
    private static void promise06_allLetters32To126() {
        VillageBall x = new VillageBall();
        for (int letter = 32; letter <= 126; letter++) {
            Bounds.due("letter " + letter, x.type(letter), letter - 31);
        }
    }

    @Says(at = "Promise 6", text = "FULL: 130")
    private static void promise06_FULL_130ThereAre() {
        VillageBall x = new VillageBall();
        for (int k = 1; k <= 129; k++) {
            x.type(' ');
        }
        Bounds.due("the 130th", x.type('x'), 130);
        Bounds.due("the 131st", x.type('y'), FULL);
        Bounds.due("once more", x.type('z'), FULL);
        Bounds.due("the 130th is there", x.village(), -20 - 129);
        Bounds.asked("the 131st", FULL_ONE, y -> y.type('1'), FULL);
    }

    @Says(at = "Promise 6", text = "FULL: 130")
    private static void promise06_emptiedItTakes130Again() {
        VillageBall x = Villages.full();
        x.village();
        for (int k = 1; k <= 130; k++) {
            Bounds.due("letter", x.type(126), k);
        }
        Bounds.due("the 131st", x.type(126), FULL);
    }

    // ---- promise 7

    @Says(at = "Promise 7", text = "THE TAPE, which is empty then, is a VILLAGE: how many CELLS.")
    private static void promise07_theTapeIsEmptyThen() {
        VillageBall x = new VillageBall();
        Bounds.due("a village", Check.read(x, "11,11,11,11"), 4);
        Bounds.due("of an empty tape", x.village(), -20);
        Bounds.due("one letter", x.type('1'), 1);
        Bounds.due("a fault", x.village(), -21);
        Bounds.due("of an empty tape", x.village(), -20);
        Bounds.due("one letter", x.type('1'), 1);
    }

    @Says(at = "Promise 7", text = "THE TAPE, which is empty then, is a VILLAGE: how many CELLS.")
    private static void promise07_theLongestVillage() {
        // 24 cells and 8 things with numbers of two digits are 119 letters; blanks make them 130.
        String text = Check.cells("99", 24) + ";" + Check.cells("g9@23", 8);
        VillageBall x = new VillageBall();
        Bounds.due("130 letters", Check.read(x, " ".repeat(130 - text.length()) + text), 24);
        Bounds.dueAll("count", Check.counts(x), 24, 8, 0, 1, 0, 1, 0, 216, 0);
        Bounds.due("all lie at the last", x.at(23, 2), 255);
    }

    @Says(at = "Promise 7", text = "A FAULT (all else stays).")
    private static void promise07_FAULT_allElseStays() {
        Supplier<VillageBall> emptied = () -> {
            VillageBall x = Villages.rolling();
            x.village();
            return x;
        };
        String[] faults = {"", "x", "99,99,99", "99,99,99,99,99x", "99,99,99,99;w9@0,w9@4", "99,99,99,99;w9@0,w9@1,",
            Check.cells("99", 25), "99,99,99,99;" + Check.cells("w9@0", 9)};
        for (String text : faults) {
            VillageBall tried = new VillageBall();
            int fault = Check.read(tried, text);
            Bounds.due("it is a fault: " + text, fault <= -20 ? 1 : 0, 1);
            Bounds.asked("\"" + text + "\"", emptied, x -> Check.read(x, text), fault);
        }
    }

    // ---- promise 8

    @Says(at = "Promise 8", text = "BAD.")
    private static void promise08_BAD_noSuchWhat() {
        Bounds.bad("count", ROLLING, VillageBall::count, -1, 9, MOST, LEAST);
    }

    @Says(at = "Promise 8", text = "0 CELLS, 1 THINGS, 2 where THE BALL is, 3 how GREAT, 4 how FAST, 5 whether it RESTS"
        + " (1, 0), 6 THINGS IN it (a set), 7 SNOW of all, 8 what may be UNDONE.")
    private static void promise08_theLeastAndTheMostOfEach() {
        VillageBall least = Villages.level(4);
        Bounds.dueAll("the least", Check.counts(least), 4, 0, 0, 1, 0, 1, 0, 0, 0);
        VillageBall most = Check.ofText(Check.cells("99", 24) + ";" + Check.cells("l0@0", 8));
        for (int k = 0; k < 9; k++) {
            most.go(99, 99);
        }
        Bounds.dueAll("the most", Check.counts(most), 24, 8, 0, 99, 99, 0, 0, 216, 8);
        // It leaps by five: fast by 99, 98, 96, 93, 89.
        most.steps(24);
        Bounds.dueAll("at the bottom", Check.counts(most), 24, 8, 24, 144, 89, 1, 255, 171, 8);
    }
}
