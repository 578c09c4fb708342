import java.util.function.Supplier;

/** The bounds that promises 9 to 15 name: letting go, steps, days, snow, drifts, undoing, the seed. */
public final class BoundsPromises9To15Test {
    private static final int NOT = -2, NONE = -4;
    private static final int MOST = Integer.MAX_VALUE, LEAST = Integer.MIN_VALUE;
    private static final Supplier<VillageBall> NEW = VillageBall::new;
    private static final Supplier<VillageBall> ROLLING = Villages::rolling;
    private static final Supplier<VillageBall> RESTING = Villages::resting;

    public static void main(String[] args) throws Exception {
        Bounds.run(BoundsPromises9To15Test.class);
    }

    // ---- promise 9

    @Says(at = "Promise 9", text = "LET GO, GREAT by g (1 .. 99), FAST by f (0 .. 99): how many THINGS are BACK by it. BAD.")
    private static void promise09_BAD_greatTooSmallOrTooLarge() {
        Bounds.bad("great", ROLLING, (x, g) -> x.go(g, 1), 0, 100, -1, 999, MOST, LEAST);
        Bounds.bad("great", RESTING, (x, g) -> x.go(g, 1), 0, 100);
    }

    @Says(at = "Promise 9", text = "LET GO, GREAT by g (1 .. 99), FAST by f (0 .. 99): how many THINGS are BACK by it. BAD.")
    private static void promise09_BAD_fastTooSmallOrTooLarge() {
        Bounds.bad("fast", ROLLING, (x, f) -> x.go(1, f), -1, 100, MOST, LEAST);
        Bounds.bad("fast", RESTING, (x, f) -> x.go(1, f), -1, 100);
    }

    @Says(at = "Promise 9", text = "GREAT by g (1 .. 99), FAST by f (0 .. 99)")
    private static void promise09_theLeastAndTheMost() {
        VillageBall x = Villages.level(4);
        int[][] each = {{1, 0}, {1, 99}, {99, 0}, {99, 99}};
        for (int k = 0; k < 4; k++) {
            Bounds.due("go", x.go(each[k][0], each[k][1]), 0);
            Bounds.dueAll("count", Check.counts(x), 4, 0, 0, each[k][0], each[k][1], 0, 0, 0, k + 1);
        }
    }

    @Says(at = "Promise 9", text = "how many THINGS are BACK by it")
    private static void promise09_noneOrAllAreBack() {
        VillageBall x = Check.ofText("00,00,00,00;" + Check.cells("l0@0", 7) + ",l0@1");
        Bounds.due("none is in it", x.go(1, 0), 0);
        x.steps(1);
        Bounds.due("seven are in it", x.go(1, 1), 7);
        x.steps(2);
        Bounds.due("one is in it", x.go(1, 1), 1);
        x.steps(24);
        Bounds.due("all are back already", x.go(1, 1), 0);
        VillageBall y = Villages.stepped(Check.cells("l0@0", 8), 1, 1);
        Bounds.due("eight are in it", y.go(1, 1), 8);
    }

    // ---- promise 10

    @Says(at = "Promise 10", text = "n STEPS (1 .. 24), till it RESTS: how many were made. BAD; NOT: it RESTS.")
    private static void promise10_BAD_nTooSmallOrTooLarge() {
        Bounds.bad("steps", ROLLING, VillageBall::steps, 0, 25, -1, MOST, LEAST);
        Bounds.bad("steps at rest", RESTING, VillageBall::steps, 0, 25, -1);
    }

    @Says(at = "Promise 10", text = "NOT: it RESTS.")
    private static void promise10_NOT_itRests() {
        Bounds.asked("at first", NEW, x -> x.steps(1), NOT);
        Bounds.asked("at the bottom", RESTING, x -> x.steps(1), NOT);
        Bounds.asked("at the bottom", RESTING, x -> x.steps(24), NOT);
        Bounds.asked("at a cell", () -> Villages.stepped("l1@0", 5, 0), x -> x.steps(24), NOT);
    }

    @Says(at = "Promise 10", text = "n STEPS (1 .. 24), till it RESTS: how many were made.")
    private static void promise10_oneAnd24() {
        VillageBall x = Villages.level(24);
        x.go(1, 1);
        Bounds.due("one", x.steps(1), 1);
        Bounds.due("at 1", x.count(2), 1);
        x.go(1, 1);
        Bounds.due("24", x.steps(24), 24);
        Bounds.due("at the bottom", x.count(2), 24);
        x.go(1, 1);
        Bounds.due("23", x.steps(23), 23);
        Bounds.due("at the last cell", x.count(2), 23);
        Bounds.due("it does not rest", x.count(5), 0);
    }

    @Says(at = "Promise 10", text = "n STEPS (1 .. 24), till it RESTS: how many were made.")
    private static void promise10_noneIsMadeBehindRest() {
        VillageBall x = Villages.level(4);
        x.go(1, 0);
        Bounds.due("the one in which it rests", x.steps(24), 1);
        Bounds.due("letting go and that one are known", x.count(8), 2);
        x.go(1, 1);
        Bounds.due("four", x.steps(5), 4);
        Bounds.due("letting go and those four, too", x.count(8), 7);
    }

    // ---- promise 11

    @Says(at = "Promise 11", text = "n DAYS (1 .. 24) MELT it: how GREAT it is. BAD; NOT: it does not REST.")
    private static void promise11_BAD_nTooSmallOrTooLarge() {
        Bounds.bad("melt", RESTING, VillageBall::melt, 0, 25, -1, MOST, LEAST);
        Bounds.bad("melt while it rolls", ROLLING, VillageBall::melt, 0, 25, -1);
    }

    @Says(at = "Promise 11", text = "NOT: it does not REST.")
    private static void promise11_NOT_itDoesNotRest() {
        Bounds.asked("while it rolls", ROLLING, x -> x.melt(1), NOT);
        Bounds.asked("while it rolls", ROLLING, x -> x.melt(24), NOT);
        Bounds.asked("let go, fast by 0", () -> {
            VillageBall x = Villages.level(4);
            x.go(5, 0);
            return x;
        }, x -> x.melt(1), NOT);
    }

    @Says(at = "Promise 11", text = "n DAYS (1 .. 24) MELT it: how GREAT it is.")
    private static void promise11_oneAnd24() {
        VillageBall x = new VillageBall();
        Bounds.due("one, great by 1 at first", x.melt(1), 1);
        Bounds.due("one is known", x.count(8), 1);
        x = Villages.stepped("", 99, 0);
        Bounds.due("one", x.melt(1), 89);
        x = Villages.stepped("", 99, 0);
        // 99, 89, 80, 71, 63, 56, 50, 44, 39, 35, 31, 27, 24, 21, 18, 16, 14, 12, 10, 8, 7, 6, 5, 4, 3
        Bounds.due("23", x.melt(23), 4);
        x = Villages.stepped("", 99, 0);
        Bounds.due("24", x.melt(24), 3);
        Bounds.due("it is so", x.count(3), 3);
    }

    @Says(at = "Promise 11", text = "n DAYS (1 .. 24) MELT it: how GREAT it is.")
    private static void promise11_moreDaysThanThings() {
        VillageBall x = Villages.stepped("l5@0,l6@0", 40, 0);
        Bounds.due("6 and 1, 5 and 1, then a tenth of 38 and 1", x.melt(3), 34);
        Bounds.due("both are back", x.of(0, 4) + x.of(1, 4), 2);
        VillageBall y = Villages.stepped(Check.cells("l1@0", 8), 99, 0);
        Bounds.due("eight times 1 and 1", y.melt(8), 91);
        Bounds.due("none is in it", y.count(6), 0);
    }

    // ---- promise 12

    @Says(at = "Promise 12", text = "SNOW FALLS by n (1 .. 9): SNOW of all. BAD.")
    private static void promise12_BAD_nTooSmallOrTooLarge() {
        Bounds.bad("snow", ROLLING, VillageBall::snow, 0, 10, -1, MOST, LEAST);
        Bounds.bad("snow at rest", RESTING, VillageBall::snow, 0, 10, -1);
    }

    @Says(at = "Promise 12", text = "SNOW FALLS by n (1 .. 9): SNOW of all.")
    private static void promise12_oneAndNine() {
        VillageBall x = Villages.level(24);
        Bounds.due("by 1", x.snow(1), 24);
        x.undo();
        Bounds.due("by 9", x.snow(9), 216);
        Bounds.due("where all is full", x.snow(1), 216);
        Bounds.due("known, too", x.count(8), 2);
        Bounds.due("undone", x.undo(), 1);
        Bounds.due("undone", x.undo(), 0);
        Bounds.due("none", x.count(7), 0);
    }

    // ---- promise 13

    @Says(at = "Promise 13", text = "BAD.")
    private static void promise13_BAD_nTooSmallOrTooLarge() {
        Bounds.bad("drift", ROLLING, VillageBall::drift, 0, 41, -1, MOST, LEAST);
        Bounds.bad("drift at rest", RESTING, VillageBall::drift, 0, 41, -1);
    }

    @Says(at = "Promise 13", text = "A DRIFT of n (1 .. 40), all together one that may be UNDONE: SNOW of all.")
    private static void promise13_oneAnd40() {
        VillageBall one = Villages.level(24);
        Bounds.due("one", one.drift(1), 1);
        VillageBall x = Villages.level(24);
        Bounds.due("40", x.drift(40), 40);
        Bounds.due("40 fell", x.count(7), 40);
        long draw = 1;
        for (int k = 0; k < 40; k++) {
            draw = (draw * 1103515245L + 12345) & 0x7fffffffL;
        }
        Bounds.due("40 were drawn", x.seed(1), draw);
    }

    @Says(at = "Promise 13", text = "all together one that may be UNDONE")
    private static void promise13_allTogetherOne() {
        VillageBall x = Villages.level(4);
        x.seed(5);
        x.drift(40);
        Bounds.due("one is known", x.count(8), 1);
        x.drift(40);
        Bounds.due("two are known", x.count(8), 2);
        x.undo();
        Bounds.due("undone", x.undo(), 0);
        Bounds.due("no snow", x.count(7), 0);
        Bounds.due("the draw", x.seed(1), 5);
    }

    @Says(at = "Promise 13", text = "SNOW of all.")
    private static void promise13_whereAllIsFull() {
        VillageBall x = Check.ofText("09,09,09,09");
        Bounds.due("none more", x.drift(40), 36);
        Bounds.dueAll("each", Check.snows(x), 9, 9, 9, 9);
        Bounds.due("known, too", x.count(8), 1);
    }

    // ---- promise 14

    @Says(at = "Promise 14", text = "UNDONE: how many more may be. NONE: none is known.")
    private static void promise14_NONE_noneIsKnown() {
        Bounds.asked("at first", NEW, VillageBall::undo, NONE);
        Bounds.asked("behind a village", () -> Villages.level(4), VillageBall::undo, NONE);
        Bounds.asked("when all are undone", () -> {
            VillageBall x = Villages.rolling();
            for (int k = 0; k < 3; k++) {
                x.undo();
            }
            return x;
        }, VillageBall::undo, NONE);
    }

    @Says(at = "Promise 14", text = "UNDONE: how many more may be.")
    private static void promise14_fromEightDownTo0() {
        VillageBall x = Villages.level(4);
        for (int k = 0; k < 20; k++) {
            x.snow(1);
        }
        for (int k = 7; k >= 0; k--) {
            Bounds.due("undo", x.undo(), k);
            Bounds.due("known", x.count(8), k);
        }
        Bounds.due("none", x.undo(), NONE);
        Bounds.due("the first twelve are lost", x.count(7), 36);
    }

    @Says(at = "Promise 14", text = "UNDONE: how many more may be.")
    private static void promise14_whatIsToldIsNotUndone() {
        VillageBall x = Villages.level(4);
        x.cell(0, 0, 9);
        x.cell(0, 1, 9);
        x.seed(7);
        x.sheet(0, 0, 1);
        x.image();
        Bounds.due("none is known", x.undo(), NONE);
        x.go(1, 1);
        x.cell(0, 1, 3);
        x.seed(8);
        Bounds.due("letting go alone", x.undo(), 0);
        Bounds.due("snow as ahead of it", x.at(0, 1), 9);
        Bounds.due("the draw as ahead of it", x.seed(0), 7);
    }

    // ---- promise 15

    @Says(at = "Promise 15", text = "THE DRAW becomes v: what it was. BAD: below 0.")
    private static void promise15_BAD_below0() {
        Bounds.bad("seed", ROLLING, VillageBall::seed, -1, -2, LEAST);
    }

    @Says(at = "Promise 15", text = "THE DRAW becomes v: what it was.")
    private static void promise15_theLeastAndTheMost() {
        VillageBall x = new VillageBall();
        Bounds.due("0", x.seed(0), 1);
        Bounds.due("the most", x.seed(MOST), 0);
        Bounds.due("it was so", x.seed(MOST), MOST);
        Bounds.due("nothing to be undone", x.count(8), 0);
    }
}
