import java.util.function.Supplier;

/** The bounds that part 1 of the terms names: the slope, the ball, things, a step, kinds, a day, snow. */
public final class BoundsPart1Test {
    private static final int BAD = -1, NOT = -2, FULL = -3, NONE = -4;
    private static final Supplier<VillageBall> NEW = VillageBall::new;

    public static void main(String[] args) throws Exception {
        Bounds.run(BoundsPart1Test.class);
    }

    // ---- the slope

    @Says(at = "==== 1", text = "THE SLOPE has CELLS 0 (the top) and on, 4 to 24 (12 at first)")
    private static void promise01_cells_12AtFirst() {
        VillageBall x = new VillageBall();
        Bounds.due("how many", x.count(0), 12);
        Bounds.due("the top", x.at(0, 0), 3);
        Bounds.due("the last", x.at(11, 0), 3);
        Bounds.due("above the top", x.at(-1, 0), BAD);
        Bounds.due("below the last", x.at(12, 0), BAD);
    }

    @Says(at = "==== 1", text = "THE SLOPE has CELLS 0 (the top) and on, 4 to 24 (12 at first)")
    private static void promise07_cells_4AreTheFewest() {
        VillageBall x = new VillageBall();
        Bounds.due("3", Check.read(x, Check.cells("12", 3)), -20 - 8);
        Bounds.due("it is as it was", x.count(0), 12);
        Bounds.due("4", Check.read(x, Check.cells("12", 4)), 4);
        Bounds.due("how many", x.count(0), 4);
        Bounds.due("the last", x.at(3, 0), 1);
        Bounds.due("below the last", x.at(4, 0), BAD);
    }

    @Says(at = "==== 1", text = "THE SLOPE has CELLS 0 (the top) and on, 4 to 24 (12 at first)")
    private static void promise07_cells_24AreTheMost() {
        VillageBall x = new VillageBall();
        Bounds.due("25", Check.read(x, Check.cells("12", 25)), -20 - 71);
        Bounds.due("it is as it was", x.count(0), 12);
        Bounds.due("24", Check.read(x, Check.cells("12", 24)), 24);
        Bounds.due("how many", x.count(0), 24);
        Bounds.due("the last", x.at(23, 1), 2);
        Bounds.due("below the last", x.at(24, 1), BAD);
    }

    @Says(at = "==== 1", text = "each of a DROP (0 .. 9; 3 at first)")
    private static void promise02_drop_0To9_3AtFirst() {
        VillageBall x = new VillageBall();
        for (int c = 0; c < 12; c++) {
            Bounds.due("at first", x.at(c, 0), 3);
        }
        Bounds.due("0 at the top", x.cell(0, 0, 0), 3);
        Bounds.due("9 at the top", x.cell(0, 0, 9), 0);
        Bounds.due("9 stays", x.at(0, 0), 9);
        Bounds.bad("drop", NEW, (y, v) -> y.cell(0, 0, v), -1, 10);
    }

    @Says(at = "==== 1", text = "with SNOW (0 .. 9; 2 at first)")
    private static void promise02_snow_0To9_2AtFirst() {
        VillageBall x = new VillageBall();
        for (int c = 0; c < 12; c++) {
            Bounds.due("at first", x.at(c, 1), 2);
        }
        Bounds.due("0 at the last", x.cell(11, 1, 0), 2);
        Bounds.due("9 at the last", x.cell(11, 1, 9), 0);
        Bounds.due("9 stays", x.at(11, 1), 9);
        Bounds.bad("snow", NEW, (y, v) -> y.cell(0, 1, v), -1, 10);
    }

    // ---- the ball

    private static void dueBottom(int cells) {
        VillageBall x = Villages.level(cells);
        x.go(1, 1);
        Bounds.due("steps", x.steps(24), cells);
        Bounds.due("where it is", x.count(2), cells);
        Bounds.due("it rests", x.count(5), 1);
        Bounds.due("where it will rest", x.ahead(0), cells);
    }

    @Says(at = "==== 1", text = "at the BOTTOM (told as how many CELLS there are)")
    private static void promise10_bottom_isHowManyCellsThereAre() {
        dueBottom(4);
        dueBottom(5);
        dueBottom(23);
        dueBottom(24);
    }

    @Says(at = "==== 1", text = "is GREAT by 1 .. 999")
    private static void promise10_great_neverBelow1() {
        VillageBall warm = Villages.stepped("w9@0", 1, 5);
        Bounds.due("1 by a warm thing of 9", warm.count(3), 1);
        VillageBall days = Villages.stepped("", 1, 0);
        Bounds.due("1 by 24 days", days.melt(24), 1);
        Bounds.due("it is so", days.count(3), 1);
    }

    /** 999 can't be come to: 99 at the start, 9 by each of 24 cells, 18 by each of 8 things make 459. */
    @Says(at = "==== 1", text = "is GREAT by 1 .. 999")
    private static void promise10_great_nothingBelow999CutsIt() {
        VillageBall x = Check.ofText(Check.cells("99", 8) + ";" + Check.cells("g9@6", 8));
        x.go(99, 19);
        // Fast by 19, 18, 16, 13, 9, 4, 0; great by 9 more at each of 7 cells, by 18 for each thing.
        Bounds.due("steps", x.steps(24), 7);
        Bounds.due("great", x.count(3), 99 + 63 + 144);
        Bounds.due("a day: 9 and 1", x.melt(1), 296);
    }

    @Says(at = "==== 1", text = "FAST by 0 .. 99")
    private static void promise10_fast_0To99() {
        VillageBall x = Check.ofText("90,00,00,00");
        x.go(1, 99);
        x.steps(1);
        Bounds.due("no faster than 99", x.count(4), 99);
        VillageBall y = Villages.stepped("", 99, 0);
        Bounds.due("no slower than 0", y.count(4), 0);
    }

    @Says(at = "==== 1", text = "At first it RESTS at CELL 0, GREAT by 1, FAST by 0.")
    private static void promise01_ball_atFirst() {
        Bounds.dueAll("count", Check.counts(new VillageBall()), 12, 0, 0, 1, 0, 1, 0, 24, 0);
        Bounds.asked("it makes no step", NEW, x -> x.steps(1), NOT);
    }

    // ---- things

    @Says(at = "==== 1", text = "THINGS 0 .. 7, as they come")
    private static void promise04_things_0To7() {
        VillageBall x = new VillageBall();
        Bounds.due("no thing 0", x.of(0, 0), BAD);
        for (int t = 0; t < 8; t++) {
            Bounds.due("no thing yet", x.of(t, 1), BAD);
            Bounds.due("its number", x.thing(0, t, 0), t);
            Bounds.due("its weight", x.of(t, 1), t);
        }
        Bounds.due("a ninth", x.thing(0, 8, 0), FULL);
        Bounds.due("no thing 8", x.of(8, 1), BAD);
    }

    @Says(at = "==== 1", text = "HEAVY by 0 .. 9")
    private static void promise04_heavy_0To9() {
        VillageBall x = new VillageBall();
        Bounds.due("0", x.thing(0, 0, 0), 0);
        Bounds.due("9", x.thing(0, 9, 0), 1);
        Bounds.due("0 stays", x.of(0, 1), 0);
        Bounds.due("9 stays", x.of(1, 1), 9);
        Bounds.bad("heavy", NEW, (y, v) -> y.thing(0, v, 0), -1, 10);
    }

    @Says(at = "==== 1", text = "or are BACK (for good)")
    private static void promise09_back_isForGood() {
        VillageBall x = Villages.stepped("l1@0", 1, 5);
        x.go(1, 5);
        Bounds.dueAll("back", Check.ofThing(x, 0), 1, 1, NONE, NONE, 1);
        x.steps(24);
        x.snow(9);
        x.melt(24);
        Bounds.due("none is back by it once more", x.go(1, 5), 0);
        x.steps(24);
        Bounds.due("none is in it", x.count(6), 0);
        Bounds.dueAll("back still", Check.ofThing(x, 0), 1, 1, NONE, NONE, 1);
    }

    // ---- let go

    @Says(at = "==== 1", text = "It is LET GO from CELL 0, GREAT by g, FAST by f; THINGS that are IN it are BACK then.")
    private static void promise09_letGo_noneIsInIt() {
        VillageBall x = Check.ofText("00,00,00,00;l1@0,l1@1");
        Bounds.due("none is back", x.go(1, 0), 0);
        Bounds.due("0 lies on", x.of(0, 2), 0);
        Bounds.due("1 lies on", x.of(1, 2), 1);
        Bounds.dueAll("from cell 0", Check.counts(x), 4, 2, 0, 1, 0, 0, 0, 0, 1);
    }

    @Says(at = "==== 1", text = "It is LET GO from CELL 0, GREAT by g, FAST by f; THINGS that are IN it are BACK then.")
    private static void promise09_letGo_allEightAreInIt() {
        VillageBall x = Villages.stepped(Check.cells("l0@0", 8), 1, 19);
        Bounds.due("all are in it", x.count(6), 255);
        Bounds.due("all are back", x.go(99, 99), 8);
        for (int t = 0; t < 8; t++) {
            Bounds.dueAll("of " + t, Check.ofThing(x, t), 1, 0, NONE, NONE, 1);
        }
        Bounds.dueAll("from cell 0", Check.counts(x), 10, 8, 0, 99, 99, 0, 0, 0, 3);
    }

    @Says(at = "==== 1", text = "It is LET GO from CELL 0, GREAT by g, FAST by f; THINGS that are IN it are BACK then.")
    private static void promise09_letGo_fromTheBottom() {
        VillageBall x = Villages.stepped("", 1, 99);
        x.steps(24);
        Bounds.due("at the bottom", x.count(2), 10);
        x.go(2, 3);
        Bounds.dueAll("from cell 0", Check.counts(x), 10, 0, 0, 2, 3, 0, 0, 0, 4);
    }

    // ---- a step

    @Says(at = "==== 1", text = "A STEP, if it does not REST")
    private static void promise10_step_noneWhileItRests() {
        VillageBall x = Villages.stepped("l1@0", 1, 0);
        Bounds.due("it rests at 0", x.count(5), 1);
        x.cell(0, 0, 9);
        x.cell(0, 1, 9);
        Bounds.due("no step", x.steps(24), NOT);
        Bounds.due("none foretold", x.ahead(3), 0);
        Bounds.dueAll("all is as it was", Check.counts(x), 10, 1, 0, 2, 0, 1, 1, 9, 2);
    }

    /** How fast it is behind one step from a cell of that drop. */
    private static int fastBehind(int drop, int great, int fast) {
        VillageBall x = Check.ofText(drop + "0," + Check.cells("00", 9));
        x.go(great, fast);
        x.steps(1);
        return x.count(4);
    }

    @Says(at = "==== 1", text = "it is FASTER by DROP, less by a tenth of how GREAT it is (0 .. 99 then)")
    private static void promise10_faster_0AtLeast() {
        Bounds.due("0 and 0", fastBehind(0, 1, 0), 0);
        Bounds.due("9 less 9", fastBehind(9, 99, 0), 0);
        Bounds.due("8 less 9", fastBehind(8, 99, 0), 0);
        Bounds.due("0 less 9", fastBehind(0, 99, 0), 0);
        Bounds.due("9 and 1 less 9", fastBehind(9, 99, 1), 1);
        Bounds.due("a tenth of 10", fastBehind(1, 10, 0), 0);
        Bounds.due("a tenth of 9", fastBehind(1, 9, 0), 1);
    }

    @Says(at = "==== 1", text = "it is FASTER by DROP, less by a tenth of how GREAT it is (0 .. 99 then)")
    private static void promise10_faster_99AtMost() {
        Bounds.due("90 and 9", fastBehind(9, 1, 90), 99);
        Bounds.due("91 and 9", fastBehind(9, 1, 91), 99);
        Bounds.due("99 and 9", fastBehind(9, 1, 99), 99);
        Bounds.due("the bound comes behind both: 99 and 9 less 9", fastBehind(9, 99, 99), 99);
        Bounds.due("the bound comes behind both: 95 and 9 less 5", fastBehind(9, 50, 95), 99);
        Bounds.due("99 less 9", fastBehind(0, 99, 99), 90);
    }

    @Says(at = "==== 1", text = "it is GREATER by the SNOW there (999 at most), which is gone")
    private static void promise10_snowIsTaken_noneOrNine() {
        VillageBall x = Check.ofText("30,39,00,00");
        x.go(1, 0);
        x.steps(1);
        Bounds.due("none there", x.count(3), 1);
        Bounds.due("none there still", x.at(0, 1), 0);
        Bounds.due("the next one's lies", x.at(1, 1), 9);
        x.steps(1);
        Bounds.due("nine there", x.count(3), 10);
        Bounds.due("gone", x.at(1, 1), 0);
    }

    /** The bound 999 can't be come to: that nothing less cuts it is all that can be seen. */
    @Says(at = "==== 1", text = "it is GREATER by the SNOW there (999 at most), which is gone")
    private static void promise10_snowIsTaken_above99() {
        VillageBall x = Check.ofText("99,99,99,99");
        x.go(99, 9);
        x.steps(3);
        Bounds.due("99 and three times 9", x.count(3), 126);
        Bounds.dueAll("where it was", Check.snows(x), 0, 0, 0, 9);
    }

    @Says(at = "==== 1", text = "then it meets THINGS that LIE there, rising.")
    private static void promise10_meets_allEightRising() {
        VillageBall x = Villages.stepped("p8@0,p7@0,p6@0,p5@0,l1@0,l1@0,l1@0,l1@0", 4, 99);
        Bounds.due("the first four are too heavy yet", x.count(6), 0xf0);
        Bounds.due("slowed by each of them", x.count(4), 99 - 26);
        Bounds.due("great", x.count(3), 8);
        for (int t = 4; t < 8; t++) {
            Bounds.due("place of " + t, x.of(t, 3), t - 4);
        }
    }

    @Says(at = "==== 1", text = "then it meets THINGS that LIE there, rising.")
    private static void promise10_meets_noneElsewhere() {
        VillageBall x = Villages.stepped("l1@1,l1@2,l1@9", 1, 20);
        Bounds.due("it is at 2", x.count(2), 2);
        Bounds.due("it has met none", x.count(6), 0);
        x.steps(1);
        Bounds.due("it has met the one there", x.count(6), 2);
        Bounds.due("it has leapt over that one", x.of(0, 2), 1);
    }

    @Says(at = "==== 1", text = "Is it FAST by 0 then, it RESTS there; else it goes 1 CELL further on")
    private static void promise10_rests_fastBy0_notBy1() {
        VillageBall zero = Villages.stepped("", 1, 0);
        Bounds.due("0: it rests", zero.count(5), 1);
        Bounds.due("0: there", zero.count(2), 0);
        VillageBall one = Villages.stepped("", 1, 1);
        Bounds.due("1: it does not", one.count(5), 0);
        Bounds.due("1: further on", one.count(2), 1);
        VillageBall stopped = Villages.stepped("p5@0", 1, 5);
        Bounds.due("stopped by a thing: it rests", stopped.count(5), 1);
        Bounds.due("stopped by a thing: there", stopped.count(2), 0);
        VillageBall slowed = Villages.stepped("p5@0", 1, 6);
        Bounds.due("slowed to 1: it does not", slowed.count(5), 0);
        Bounds.due("slowed to 1: further on", slowed.count(2), 1);
    }

    @Says(at = "==== 1", text = "and 1 more for each 20 by which it is FAST")
    private static void promise10_leaps_oneMoreForEach20() {
        int[][] dues = {{1, 1}, {19, 1}, {20, 2}, {39, 2}, {40, 3}, {59, 3}, {60, 4}, {79, 4}, {80, 5}, {99, 5}};
        for (int[] d : dues) {
            Bounds.due("fast by " + d[0], Villages.stepped("", 1, d[0]).count(2), d[1]);
        }
    }

    @Says(at = "==== 1", text = "beyond the last CELL it is at the BOTTOM and RESTS.")
    private static void promise10_beyondTheLast_onTheLastItIsNot() {
        VillageBall x = Villages.level(4);
        x.go(1, 59);
        x.steps(1);
        Bounds.dueAll("on the last", Check.counts(x), 4, 0, 3, 1, 59, 0, 0, 0, 2);
        Bounds.due("one step more", x.steps(24), 1);
        Bounds.due("the bottom", x.count(2), 4);
        Bounds.due("it rests", x.count(5), 1);
    }

    @Says(at = "==== 1", text = "beyond the last CELL it is at the BOTTOM and RESTS.")
    private static void promise10_beyondTheLast_howeverFar() {
        for (int fast : new int[] {60, 79, 80, 99}) {
            VillageBall x = Villages.level(4);
            x.go(1, fast);
            x.steps(1);
            Bounds.dueAll("fast by " + fast, Check.counts(x), 4, 0, 4, 1, fast, 1, 0, 0, 2);
        }
    }

    // ---- kinds

    /** What a ball is behind a step in which it meets one thing: great, fast, whether it has taken it up. */
    private static void dueMet(String thing, int great, int fast, int wantGreat, int wantFast, int wantTaken) {
        VillageBall x = Villages.stepped(thing + "@0", great, fast);
        int[] got = {x.count(3), x.count(4), x.count(6)};
        Bounds.dueAll(thing + ", great by " + great + ", fast by " + fast, got, wantGreat, wantFast, wantTaken);
        Bounds.due(thing + " lies on, or does not", x.of(0, 2), wantTaken == 1 ? NONE : 0);
    }

    @Says(at = "==== 1", text = "0 PLAIN: is taken up, if THE BALL is GREAT by as much as it is HEAVY, or more")
    private static void promise10_plain_takenFromAsMuchOn() {
        dueMet("p9", 8, 14, 8, 5, 0);
        dueMet("p9", 9, 14, 18, 14, 1);
        dueMet("p9", 10, 14, 19, 13, 1);
        dueMet("p1", 1, 14, 2, 14, 1);
        dueMet("p0", 1, 14, 1, 14, 1);
        dueMet("p2", 1, 14, 1, 12, 0);
    }

    @Says(at = "==== 1", text = "0 PLAIN: is taken up, if THE BALL is GREAT by as much as it is HEAVY, or more: GREATER"
        + " by that (999 at most)")
    private static void promise10_plain_greaterByThat() {
        dueMet("p0", 99, 14, 99, 5, 1);
        dueMet("p9", 99, 14, 108, 5, 1);
        dueMet("p9", 9, 99, 18, 99, 1);
    }

    @Says(at = "==== 1", text = "else THE BALL is less FAST by that (0 at least), it LIES on")
    private static void promise10_plain_tooHeavy_fast0AtLeast() {
        dueMet("p9", 1, 10, 1, 1, 0);
        dueMet("p9", 1, 9, 1, 0, 0);
        dueMet("p9", 1, 8, 1, 0, 0);
        dueMet("p9", 1, 0, 1, 0, 0);
        dueMet("p9", 1, 99, 1, 90, 0);
    }

    @Says(at = "==== 1", text = "1 LIGHT: is taken up in any case.")
    private static void promise10_light_inAnyCase() {
        dueMet("l9", 1, 0, 10, 0, 1);
        dueMet("l9", 1, 99, 10, 99, 1);
        dueMet("l0", 1, 15, 1, 15, 1);
        dueMet("l9", 99, 14, 108, 5, 1);
    }

    @Says(at = "==== 1", text = "as PLAIN, but if THE BALL is FAST by 15 or more, nothing comes of it")
    private static void promise10_slick_from15OnNothingComesOfIt() {
        dueMet("s5", 5, 14, 10, 14, 1);
        dueMet("s5", 5, 15, 5, 15, 0);
        dueMet("s5", 5, 99, 5, 99, 0);
        dueMet("s5", 4, 14, 4, 9, 0);
        dueMet("s5", 4, 15, 4, 15, 0);
        dueMet("s5", 4, 5, 4, 0, 0);
        dueMet("s0", 1, 14, 1, 14, 1);
        dueMet("s0", 1, 15, 1, 15, 0);
    }

    @Says(at = "==== 1", text = "as PLAIN, but if THE BALL is FAST by 15 or more, nothing comes of it")
    private static void promise10_slick_howFastItIsWhenItMeetsIt() {
        VillageBall slowed = Villages.stepped("p2@0,s1@0", 1, 16);
        Bounds.due("slowed to 14 by another", slowed.count(6), 2);
        VillageBall notEnough = Villages.stepped("p2@0,s1@0", 1, 17);
        Bounds.due("slowed to 15 by another", notEnough.count(6), 0);
        VillageBall faster = Check.ofText("10,00,00,00;s1@0");
        faster.go(1, 14);
        faster.steps(1);
        Bounds.due("15 by the drop", faster.count(6), 0);
    }

    @Says(at = "==== 1", text = "is taken up in any case, but THE BALL is less GREAT by that (1 at least)")
    private static void promise10_warm_great1AtLeast() {
        dueMet("w9", 11, 14, 2, 13, 1);
        dueMet("w9", 10, 14, 1, 13, 1);
        dueMet("w9", 9, 14, 1, 14, 1);
        dueMet("w9", 1, 14, 1, 14, 1);
        dueMet("w9", 1, 0, 1, 0, 1);
        dueMet("w9", 10, 99, 1, 98, 1);
        dueMet("w0", 5, 15, 5, 15, 1);
    }

    @Says(at = "==== 1", text = "4 GRUDGE (below SLICK): as SLICK; taken up, it makes THE BALL GREATER once more by as much.")
    private static void promise10_grudge_asSlickAndOnceMore() {
        dueMet("g5", 5, 14, 15, 14, 1);
        dueMet("g5", 5, 15, 5, 15, 0);
        dueMet("g5", 4, 14, 4, 9, 0);
        dueMet("g5", 4, 15, 4, 15, 0);
        dueMet("g9", 8, 9, 8, 0, 0);
        dueMet("g0", 1, 14, 1, 14, 1);
        dueMet("g9", 99, 14, 117, 5, 1);
    }

    // ---- a day, snow

    @Says(at = "==== 1", text = "MELT by a DAY: if THE BALL RESTS")
    private static void promise11_day_onlyAtRest() {
        Bounds.asked("while it rolls", Villages::rolling, x -> x.melt(1), NOT);
        VillageBall slow = Villages.level(4);
        slow.go(9, 0);
        Bounds.due("let go, fast by 0, it does not rest yet", slow.melt(1), NOT);
        slow.steps(1);
        Bounds.due("at a cell", slow.melt(1), 8);
        VillageBall atTheBottom = Villages.level(4);
        atTheBottom.go(9, 99);
        atTheBottom.steps(1);
        Bounds.due("at the bottom", atTheBottom.melt(1), 8);
    }

    @Says(at = "==== 1", text = "THE BALL is less GREAT by as much as it is HEAVY and 1 (1 at least);")
    private static void promise11_day_lessByAThing_1AtLeast() {
        int[][] dues = {{16, 6}, {11, 1}, {10, 1}, {2, 1}};
        for (int[] d : dues) {
            // A warm thing of 9 is taken up first of all, so that the ball is less great than its things.
            VillageBall x = Check.ofText("00,00,00,00;w9@0");
            x.go(d[0] + 9, 0);
            x.steps(1);
            Bounds.due("great ahead of it", x.count(3), d[0]);
            Bounds.due("great behind it", x.melt(1), d[1]);
            Bounds.due("the thing is back", x.of(0, 4), 1);
        }
    }

    @Says(at = "==== 1", text = "THE BALL is less GREAT by as much as it is HEAVY and 1 (1 at least);")
    private static void promise11_day_lessByAThingOf0() {
        VillageBall x = Villages.stepped("l0@0", 50, 0);
        Bounds.due("1 less", x.melt(1), 49);
        Bounds.due("a tenth less, and 1", x.melt(1), 44);
    }

    @Says(at = "==== 1", text = "the THING that was taken up last is BACK")
    private static void promise11_day_lastFirst_allEight() {
        VillageBall x = Villages.stepped(Check.cells("l1@0", 8), 1, 0);
        for (int day = 0; day < 8; day++) {
            Bounds.due("in it", x.count(6), 255 >> day);
            Bounds.due("great", x.melt(1), Math.max(1, 9 - 2 * (day + 1)));
            Bounds.due("back", x.of(7 - day, 4), 1);
        }
        Bounds.due("none in it", x.count(6), 0);
        Bounds.due("a ninth day", x.melt(1), 1);
    }

    @Says(at = "==== 1", text = "with none IN it a tenth less GREAT, and 1 (1 at least)")
    private static void promise11_day_noneInIt_1AtLeast() {
        int[][] dues = {{99, 89}, {20, 17}, {19, 17}, {10, 8}, {9, 8}, {2, 1}, {1, 1}};
        for (int[] d : dues) {
            Bounds.due("great by " + d[0], Villages.stepped("", d[0], 0).melt(1), d[1]);
        }
    }

    @Says(at = "==== 1", text = "SNOW FALLS by n: each CELL has n more (9 at most).")
    private static void promise12_snowFalls_9AtMost() {
        VillageBall x = Check.ofText("00,01,08,09");
        Bounds.due("by 1", x.snow(1), 21);
        Bounds.dueAll("each", Check.snows(x), 1, 2, 9, 9);
        Bounds.due("by 7", x.snow(7), 35);
        Bounds.dueAll("each", Check.snows(x), 8, 9, 9, 9);
        Bounds.due("by 9", x.snow(9), 36);
        Bounds.due("by 9 once more", x.snow(9), 36);
        Bounds.dueAll("each", Check.snows(x), 9, 9, 9, 9);
    }
}
