import java.util.function.Supplier;

/** The bounds that promises 16 to 23 name: what is foretold, images. */
public final class BoundsPromises16To23Test {
    private static final int BAD = -1, NOT = -2, NONE = -4, NULL = -11;
    private static final int MOST = Integer.MAX_VALUE, LEAST = Integer.MIN_VALUE;
    private static final Supplier<VillageBall> NEW = VillageBall::new;
    private static final Supplier<VillageBall> ROLLING = Villages::rolling;
    private static final Supplier<VillageBall> RESTING = Villages::resting;
    private static final Supplier<VillageBall> FULL_ONE = Villages::full;

    public static void main(String[] args) throws Exception {
        Bounds.run(BoundsPromises16To23Test.class);
    }

    // ---- promise 16

    @Says(at = "Promise 16", text = "BAD.")
    private static void promise16_BAD_noSuchWhat() {
        Bounds.bad("ahead", ROLLING, VillageBall::ahead, -1, 5, MOST, LEAST);
        Bounds.bad("ahead at rest", RESTING, VillageBall::ahead, -1, 5);
    }

    @Says(at = "Promise 16", text = "When it RESTS: 0 where, 1 how GREAT, 2 THINGS IN it (a set), 3 how many STEPS,"
        + " 4 how FAST at most.")
    private static void promise16_theLeastAndTheMostOfEach() {
        Bounds.dueAll("at first", Check.ahead(new VillageBall()), 0, 1, 0, 0, 0);
        VillageBall x = Check.ofText(Check.cells("00", 24) + ";" + Check.cells("l0@23", 8));
        x.go(1, 1);
        Bounds.dueAll("24 steps, eight things", Check.ahead(x), 24, 1, 255, 24, 1);
        x.go(99, 99);
        Bounds.due("99 now", x.ahead(4), 99);
    }

    @Says(at = "Promise 16", text = "When it RESTS: 0 where, 1 how GREAT, 2 THINGS IN it (a set), 3 how many STEPS,"
        + " 4 how FAST at most.")
    private static void promise16_asTheStepsMakeIt() {
        VillageBall x = Villages.rolling();
        int[] told = Check.ahead(x);
        Bounds.due("steps", x.steps(24), told[3]);
        int[] so = {x.count(2), x.count(3), x.count(6)};
        Bounds.dueAll("where, how great, with what", so, told[0], told[1], told[2]);
    }

    // ---- promise 17

    @Says(at = "Promise 17", text = "BAD: k below 0.")
    private static void promise17_BAD_kBelow0() {
        Bounds.bad("order", ROLLING, VillageBall::order, -1, -8, LEAST);
        Bounds.bad("order of none", NEW, VillageBall::order, -1, LEAST);
    }

    @Says(at = "Promise 17", text = "The k-th THING IN it then; NONE.")
    private static void promise17_NONE_fewerAreInIt() {
        Bounds.asked("none is in it", NEW, x -> x.order(0), NONE);
        VillageBall x = Check.ofText("10,00,00,00;" + Check.cells("l0@1", 8));
        x.go(1, 0);
        for (int k = 0; k < 8; k++) {
            Bounds.due("order " + k, x.order(k), k);
        }
        Bounds.due("8 of 8", x.order(8), NONE);
        Bounds.due("9 of 8", x.order(9), NONE);
        Bounds.due("far on", x.order(MOST), NONE);
        x.steps(24);
        x.melt(1);
        Bounds.due("the seventh, behind a day", x.order(6), 6);
        Bounds.due("the eighth is back", x.order(7), NONE);
        x.go(1, 0);
        Bounds.due("all are back", x.order(0), NONE);
    }

    // ---- promise 18

    /** From 99 it is fast by 90, 80, 69, 57, 44, 30, 15, and is stopped at the last cell. */
    private static VillageBall tooGreat(int fast) {
        VillageBall x = Check.ofText(Check.cells("09", 24));
        x.go(99, fast);
        return x;
    }

    @Says(at = "Promise 18", text = "PUSH; NONE.")
    private static void promise18_NONE_99InAllAreNotEnough() {
        Bounds.asked("from 0", () -> tooGreat(0), VillageBall::push, NONE);
        Bounds.asked("from 99", () -> tooGreat(99), VillageBall::push, NONE);
        VillageBall x = tooGreat(99);
        x.steps(7);
        Bounds.due("at the last cell", x.count(2), 23);
        Bounds.due("fast by 15, two more are wanted there", x.push(), 2);
    }

    @Says(at = "Promise 18", text = "NOT: it RESTS.")
    private static void promise18_NOT_itRests() {
        Bounds.asked("at first", NEW, VillageBall::push, NOT);
        Bounds.asked("at the bottom", RESTING, VillageBall::push, NOT);
        Bounds.asked("at a cell", () -> Villages.stepped("", 1, 0), VillageBall::push, NOT);
    }

    // ---- promise 19

    @Says(at = "Promise 19", text = "BAD.")
    private static void promise19_BAD_noSuchWhat() {
        Bounds.bad("bank", ROLLING, VillageBall::bank, -1, 2, MOST, LEAST);
        Bounds.bad("bank at rest", RESTING, VillageBall::bank, -1, 2);
    }

    @Says(at = "Promise 19", text = "BANK: the CELL (what 0), where it RESTS (1).")
    private static void promise19_firstAndLastCell_theBottom() {
        VillageBall x = Villages.level(24);
        x.go(1, 19);
        Bounds.dueAll("at the first", new int[] {x.bank(0), x.bank(1)}, 0, 0);
        x.steps(23);
        Bounds.dueAll("at the last", new int[] {x.bank(0), x.bank(1)}, 23, 23);
        x.steps(1);
        Bounds.dueAll("at the bottom", new int[] {x.bank(0), x.bank(1)}, 0, 24);
        x.go(1, 99);
        Bounds.dueAll("none stops it", new int[] {x.bank(0), x.bank(1)}, 0, 24);
    }

    // ---- promise 20

    @Says(at = "Promise 20", text = "BAD; NOT: it does not LIE.")
    private static void promise20_BAD_noSuchThing() {
        Bounds.bad("lay", ROLLING, (x, t) -> x.lay(t, 0), -1, 4, 7, 8, MOST, LEAST);
        Bounds.bad("lay of none", NEW, (x, t) -> x.lay(t, 1), -1, 0, 7);
        Bounds.bad("lay of eight", FULL_ONE, (x, t) -> x.lay(t, 1), -1, 8);
    }

    @Says(at = "Promise 20", text = "BAD; NOT: it does not LIE.")
    private static void promise20_BAD_noSuchWhat() {
        Bounds.bad("lay, it lies", ROLLING, (x, what) -> x.lay(1, what), -1, 2, MOST, LEAST);
        Bounds.bad("lay, it does not lie", ROLLING, (x, what) -> x.lay(0, what), -1, 2);
    }

    @Says(at = "Promise 20", text = "BAD; NOT: it does not LIE.")
    private static void promise20_NOT_itDoesNotLie() {
        Bounds.asked("in the ball", ROLLING, x -> x.lay(0, 0), NOT);
        Bounds.asked("in the ball", RESTING, x -> x.lay(0, 1), NOT);
        Supplier<VillageBall> back = () -> {
            VillageBall x = Villages.stepped("l1@0,l1@1", 1, 0);
            x.melt(1);
            return x;
        };
        Bounds.asked("back", back, x -> x.lay(0, 0), NOT);
        Bounds.asked("that one lies", back, x -> x.lay(1, 0), 0);
    }

    @Says(at = "Promise 20", text = "LAY: the CELL (what 0), how GREAT (1).")
    private static void promise20_theFirstAndTheLastThing() {
        VillageBall x = Check.ofText("00,00,00,00;" + Check.cells("l1@3", 7) + ",w2@1");
        x.go(1, 20);
        // It comes to 0 and 2 alone: a thing at 3 is leapt over.
        Bounds.dueAll("thing 0", new int[] {x.lay(0, 0), x.lay(0, 1)}, 0, 2);
        Bounds.dueAll("thing 7", new int[] {x.lay(7, 0), x.lay(7, 1)}, 0, 1);
    }

    // ---- promise 21

    @Says(at = "Promise 21", text = "BAD.")
    private static void promise21_BAD_noSuchThing() {
        Bounds.bad("spare", ROLLING, (x, t) -> x.spare(t, 0), -1, 4, 7, 8, MOST, LEAST);
        Bounds.bad("spare of none", NEW, (x, t) -> x.spare(t, 1), -1, 0, 7);
        Bounds.bad("spare of eight", FULL_ONE, (x, t) -> x.spare(t, 1), -1, 8);
    }

    @Says(at = "Promise 21", text = "BAD.")
    private static void promise21_BAD_noSuchWhat() {
        Bounds.bad("spare, it lies", ROLLING, (x, what) -> x.spare(1, what), -1, 2, MOST, LEAST);
        Bounds.bad("spare, none", ROLLING, (x, what) -> x.spare(0, what), -1, 2);
    }

    @Says(at = "Promise 21", text = "SPARE: how many (what 0), which (1); NONE.")
    private static void promise21_NONE_forBoth() {
        for (int what = 0; what <= 1; what++) {
            int w = what;
            Bounds.asked("in the ball", ROLLING, x -> x.spare(0, w), NONE);
            Bounds.asked("it will be met", FULL_ONE, x -> x.spare(7, w), NONE);
        }
    }

    @Says(at = "Promise 21", text = "SPARE: how many (what 0), which (1); NONE.")
    private static void promise21_0IsNotNONE() {
        VillageBall x = Check.ofText("00,00,00,00;p9@0,l1@1");
        x.go(1, 9);
        Bounds.dueAll("too heavy", new int[] {x.spare(0, 0), x.spare(0, 1)}, 0, 0);
        Bounds.dueAll("not come to", new int[] {x.spare(1, 0), x.spare(1, 1)}, 0, 0);
    }

    // ---- promise 22

    @Says(at = "Promise 22", text = "All but SHEETS, THE TAPE is kept as an IMAGE: 1.")
    private static void promise22_ofANewOneAndOfAFullOne() {
        VillageBall x = new VillageBall();
        Bounds.due("image", x.image(), 1);
        Check.read(x, "99,99,99,99;p1@1");
        Bounds.due("restore", x.restore(), 1);
        Bounds.dueAll("count", Check.counts(x), 12, 0, 0, 1, 0, 1, 0, 24, 0);
        Bounds.due("drop", x.at(11, 0), 3);
        VillageBall full = Check.ofText(Check.cells("99", 24) + ";" + Check.cells("g9@23", 8));
        for (int k = 1; k <= 9; k++) {
            full.go(k, k);
        }
        full.image();
        Check.read(full, "00,00,00,00");
        full.restore();
        Bounds.dueAll("count", Check.counts(full), 24, 8, 0, 9, 9, 0, 0, 216, 8);
        Bounds.due("things", full.at(23, 2), 255);
        for (int k = 8; k >= 1; k--) {
            Bounds.due("undo", full.undo(), k - 1);
            Bounds.due("great", full.count(3), k);
        }
    }

    @Says(at = "Promise 22", text = "All but SHEETS, THE TAPE is kept as an IMAGE: 1.")
    private static void promise22_sheetsAndTheTapeAreNot() {
        VillageBall x = Villages.level(4);
        Villages.row(x, 1, 2);
        x.sheet(1, 1, 5);
        x.type('1');
        x.image();
        x.type('2');
        x.item(0, 2, 0, 4);
        x.drop(1);
        x.sheet(2, 3, 24);
        x.restore();
        Bounds.due("the tape goes on", x.type('3'), 3);
        Bounds.dueAll("items", Villages.items(x, 0, 2, 2), 4, 2);
        Bounds.due("nothing in 1", x.drop(1), NULL);
        Bounds.due("24 in 2", x.drop(2), 24);
    }

    @Says(at = "Promise 22", text = "All but SHEETS, THE TAPE is kept as an IMAGE: 1.")
    private static void promise22_theLatestAlone() {
        VillageBall x = Villages.level(4);
        x.snow(1);
        x.image();
        x.snow(1);
        Bounds.due("once more", x.image(), 1);
        x.snow(1);
        x.restore();
        Bounds.due("the latest", x.count(7), 8);
        x.undo();
        x.restore();
        Bounds.due("the latest still", x.count(7), 8);
    }

    // ---- promise 23

    @Says(at = "Promise 23", text = "NONE: there is none.")
    private static void promise23_NONE_thereIsNone() {
        Bounds.asked("at first", NEW, VillageBall::restore, NONE);
        Bounds.asked("much was done", FULL_ONE, VillageBall::restore, NONE);
    }

    @Says(at = "Promise 23", text = "All is as it was then: 1.")
    private static void promise23_asOftenAsOneLikes() {
        VillageBall x = Villages.rolling();
        for (int k = 0; k < 3; k++) {
            x.steps(24);
            x.melt(2);
            x.cell(3, 0, 9);
            x.thing(0, 0, 0);
            Bounds.due("restore", x.restore(), 1);
            Bounds.dueAll("count", Check.counts(x), 4, 4, 0, 2, 5, 0, 0, 10, 1);
            Bounds.due("the draw", x.seed(k), 77);
            Bounds.due("drop", x.at(3, 0), 0);
            Bounds.due("no fifth thing", x.of(4, 0), BAD);
        }
    }

    @Says(at = "Promise 23", text = "All is as it was then: 1.")
    private static void promise23_whatMayBeUndoneIsOfThen() {
        VillageBall x = Villages.level(4);
        x.image();
        x.snow(1);
        x.restore();
        Bounds.due("none was known then", x.undo(), NONE);
        x.snow(1);
        x.image();
        Check.read(x, "00,00,00,00");
        x.restore();
        Bounds.due("one was known then", x.undo(), 0);
        Bounds.due("no snow", x.count(7), 0);
    }

    @Says(at = "Promise 23", text = "All is as it was then: 1.")
    private static void promise23_whatMayBeUndoneIsOfThen_thoughMoreCameSince() {
        for (int since = 1; since <= 9; since++) {
            VillageBall x = Villages.level(4);
            for (int k = 1; k <= 9; k++) {
                x.go(k, k);
            }
            x.image();
            for (int k = 0; k < since; k++) {
                x.snow(1);
            }
            x.restore();
            for (int k = 8; k >= 1; k--) {
                Bounds.due("undo", x.undo(), k - 1);
                int[] got = {x.count(3), x.count(4), x.count(7)};
                Bounds.dueAll("great, fast, snow", got, k, k, 0);
            }
            Bounds.due("none", x.undo(), NONE);
            x.restore();
            Bounds.due("the image is as it was", x.count(8), 8);
        }
    }

    @Says(at = "Promise 23", text = "All is as it was then: 1.")
    private static void promise23_theOrderIsOfThen() {
        VillageBall x = Check.ofText("10,10,00,00;l1@1,l2@0,l3@2,l4@3");
        x.go(1, 0);
        x.steps(2);
        x.image();
        x.go(1, 5);
        x.steps(24);
        x.restore();
        int[] places = {x.of(0, 3), x.of(1, 3), x.of(2, 3), x.of(3, 3)};
        Bounds.dueAll("1, then 0", places, 1, 0, NONE, NONE);
    }
}
