import java.util.function.Supplier;

/** The bounds that part 2 of the terms names: what is foretold, push, bank, lay, spare. */
public final class BoundsPart2Test {
    private static final int NOT = -2, NONE = -4;
    private static final Supplier<VillageBall> ROLLING = Villages::rolling;

    public static void main(String[] args) throws Exception {
        Bounds.run(BoundsPart2Test.class);
    }

    // ---- foretold

    @Says(at = "==== 2", text = "FORETOLD from now, STEP by STEP till THE BALL RESTS (nothing is changed)")
    private static void promise16_foretold_nothingIsChanged() {
        for (int what = 0; what <= 4; what++) {
            int w = what;
            Bounds.asked("ahead " + w, ROLLING, x -> x.ahead(w), Villages.rolling().ahead(w));
        }
        Bounds.asked("order", ROLLING, x -> x.order(0), 0);
        Bounds.asked("push", ROLLING, x -> x.push(), 0);
        Bounds.asked("bank", ROLLING, x -> x.bank(1), 1);
        Bounds.asked("lay", ROLLING, x -> x.lay(2, 0), 0);
        Bounds.asked("spare", ROLLING, x -> x.spare(2, 0), NONE);
    }

    @Says(at = "==== 2", text = "FORETOLD from now, STEP by STEP till THE BALL RESTS (nothing is changed)")
    private static void promise16_foretold_atRestAllIsAsItIs() {
        Bounds.dueAll("at first", Check.ahead(new VillageBall()), 0, 1, 0, 0, 0);
        VillageBall stopped = Villages.stepped("l2@0", 3, 0);
        stopped.cell(0, 0, 9);
        stopped.snow(9);
        Bounds.dueAll("at a cell", Check.ahead(stopped), 0, 5, 1, 0, 0);
        VillageBall bottom = Villages.stepped("l2@0", 3, 99);
        bottom.steps(24);
        Bounds.dueAll("at the bottom", Check.ahead(bottom), 10, 5, 1, 0, 99);
    }

    @Says(at = "==== 2", text = "FORETOLD from now, STEP by STEP till THE BALL RESTS (nothing is changed)")
    private static void promise16_foretold_oneStep_24Steps() {
        VillageBall one = Villages.level(4);
        one.go(1, 0);
        Bounds.dueAll("a step in which it rests", Check.ahead(one), 0, 1, 0, 1, 0);
        VillageBall most = Villages.level(24);
        most.go(1, 1);
        Bounds.dueAll("a step for each of 24 cells", Check.ahead(most), 24, 1, 0, 24, 1);
    }

    @Says(at = "==== 2", text = "which THINGS are IN it (a set)")
    private static void promise16_foretold_thingsInIt_noneOrAll() {
        VillageBall x = Check.ofText("10,00,00,00;" + Check.cells("l0@3", 8));
        Bounds.due("none", x.ahead(2), 0);
        x.go(1, 0);
        Bounds.due("all eight", x.ahead(2), 255);
    }

    @Says(at = "==== 2", text = "how FAST it was at most (behind a STEP; as it is now, too)")
    private static void promise16_fastAtMost_behindAStepOrNow() {
        VillageBall now = Check.ofText("90,00,00,00;p9@0,p9@0");
        now.go(1, 30);
        Bounds.due("39 within the step does not count, 30 now does", now.ahead(4), 30);
        VillageBall later = Check.ofText("90,00,00,00;p9@1,p9@1");
        later.go(1, 5);
        Bounds.due("14 behind the first step", later.ahead(4), 14);
        later.steps(1);
        Bounds.due("14 is now", later.ahead(4), 14);
        later.steps(1);
        Bounds.due("14 has been: what was is not counted", later.ahead(4), 0);
        VillageBall most = Check.ofText("90,90,90,90");
        most.go(1, 99);
        Bounds.due("99", most.ahead(4), 99);
    }

    @Says(at = "==== 2", text = "in the order in which they were taken up (0: the first); none.")
    private static void promise17_order_first_last_none() {
        VillageBall x = Check.ofText("10,00,00,00;l1@3,l1@2,l1@1,l1@0");
        Bounds.due("none at rest", x.order(0), NONE);
        x.go(1, 0);
        for (int k = 0; k < 4; k++) {
            Bounds.due("order " + k, x.order(k), 3 - k);
        }
        Bounds.due("behind the last", x.order(4), NONE);
        Bounds.due("the eighth", x.order(7), NONE);
        Bounds.due("a ninth", x.order(8), NONE);
        Bounds.due("far behind", x.order(Integer.MAX_VALUE), NONE);
    }

    // ---- push

    /**
     * From 99 it is slowed to 27 by eight things, then by the snow that it takes up: 27, 26, 24, 21, 17,
     * 12, 7, 1, and is at the bottom. Great by 6 instead of 5 it is fast by 0 at the last cell.
     */
    private static VillageBall hard(int great, int fast) {
        VillageBall x = Check.ofText("00," + Check.cells("09", 13) + ";" + Check.cells("p9@0", 8));
        x.go(great, fast);
        return x;
    }

    @Says(at = "==== 2", text = "the least by which it would have to be more FAST now (0 .. 99, not above 99 in all)"
        + " so that it comes to the BOTTOM; none.")
    private static void promise18_push_99AreWanted() {
        Bounds.due("from 0", hard(5, 0).push(), 99);
        Bounds.due("with 99 it comes to the bottom", hard(5, 99).ahead(0), 14);
        Bounds.due("with 98 it does not", hard(5, 98).ahead(0), 13);
    }

    @Says(at = "==== 2", text = "the least by which it would have to be more FAST now (0 .. 99, not above 99 in all)"
        + " so that it comes to the BOTTOM; none.")
    private static void promise18_push_notAbove99InAll() {
        Bounds.due("from 1", hard(5, 1).push(), 98);
        Bounds.due("from 98", hard(5, 98).push(), 1);
        Bounds.due("from 99", hard(5, 99).push(), 0);
        Bounds.due("100 in all would be wanted, from 0", hard(6, 0).push(), NONE);
        Bounds.due("100 in all would be wanted, from 1", hard(6, 1).push(), NONE);
        Bounds.due("100 in all would be wanted, from 99", hard(6, 99).push(), NONE);
    }

    @Says(at = "==== 2", text = "the least by which it would have to be more FAST now (0 .. 99, not above 99 in all)"
        + " so that it comes to the BOTTOM; none.")
    private static void promise18_push_0IfItComesThereAnyway() {
        VillageBall x = Villages.level(4);
        x.go(1, 1);
        Bounds.due("by itself", x.push(), 0);
        x.go(1, 0);
        Bounds.due("1 is wanted", x.push(), 1);
        x.go(1, 99);
        Bounds.due("by itself", x.push(), 0);
        x.steps(1);
        Bounds.due("at the bottom", x.push(), NOT);
    }

    @Says(at = "==== 2", text = "the least by which it would have to be more FAST now (0 .. 99, not above 99 in all)"
        + " so that it comes to the BOTTOM; none.")
    private static void promise18_push_theLeastThoughMoreMayBeTooMuch() {
        // Fast by 5 .. 19 it takes up the light one, then the others; by 20 .. 27 it leaps over it and is stopped.
        String text = "00,00,00,00;l9@1,p9@2,p9@2,p9@2";
        int[][] dues = {{0, 5}, {4, 1}, {5, 0}, {19, 0}, {20, 8}, {27, 1}, {28, 0}};
        for (int[] d : dues) {
            VillageBall x = Check.ofText(text);
            x.go(1, d[0]);
            Bounds.due("from " + d[0], x.push(), d[1]);
        }
    }

    // ---- bank

    private static void dueBank(String told, VillageBall x, int cell, int where) {
        Bounds.dueAll(told, new int[] {x.bank(0), x.bank(1)}, cell, where);
    }

    private static VillageBall letGo(String text, int great, int fast) {
        VillageBall x = Check.ofText(text);
        x.go(great, fast);
        return x;
    }

    @Says(at = "==== 2", text = "if it has a BANK (DROP 0 there, THE BALL is less FAST by 20 behind the DROP, 0 at least)")
    private static void promise19_bank_drop0There_lessBy20() {
        dueBank("20 less 20", letGo("90,90,90,90", 1, 20), 0, 0);
        dueBank("21 less 20", letGo("90,90,90,90", 1, 21), 0, 4);
        dueBank("29, less a tenth of 99, less 20", letGo("90,90,90,90", 99, 29), 0, 0);
        dueBank("30, less a tenth of 99, less 20", letGo("90,90,90,90", 99, 30), 0, 4);
    }

    @Says(at = "==== 2", text = "if it has a BANK (DROP 0 there, THE BALL is less FAST by 20 behind the DROP, 0 at least)")
    private static void promise19_bank_0AtLeast() {
        dueBank("19 less 20", letGo("90,90,90,90", 1, 19), 0, 0);
        dueBank("0 less 20", letGo("90,90,90,90", 1, 0), 0, 0);
        dueBank("0, less a tenth of 99, less 20", letGo("90,90,90,90", 99, 0), 0, 0);
    }

    @Says(at = "==== 2", text = "THE BALL RESTS least far down, of like ones the first; where it RESTS then.")
    private static void promise19_bank_ofLikeOnesTheFirst() {
        dueBank("no bank stops it", letGo("90,90,90,90", 1, 99), 0, 4);
        // A bank at 0 lets it meet the thing with 5; a bank at 2, to which it leaps with 25, does so too.
        dueBank("two stop it alike", letGo(Check.cells("00", 7) + ";p5@2", 1, 25), 0, 2);
        VillageBall past = letGo("00,00,00,00,00", 1, 30);
        past.steps(1);
        past.cell(2, 0, 9);
        past.cell(3, 0, 9);
        past.cell(4, 0, 9);
        dueBank("those that it is past stop it not", past, 0, 5);
    }

    @Says(at = "==== 2", text = "THE BALL RESTS least far down, of like ones the first; where it RESTS then.")
    private static void promise19_bank_atTheLastCell() {
        VillageBall x = letGo("00,00,00,00", 1, 19);
        x.steps(3);
        dueBank("it is at the last", x, 3, 3);
    }

    @Says(at = "==== 2", text = "THE BALL RESTS least far down, of like ones the first; where it RESTS then.")
    private static void promise19_bank_atRest() {
        dueBank("at first", new VillageBall(), 0, 0);
        VillageBall stopped = letGo("90,00,00,00;p9@2", 1, 0);
        stopped.steps(24);
        dueBank("at a cell", stopped, 0, 2);
        VillageBall bottom = letGo(Check.cells("00", 24), 1, 99);
        bottom.steps(24);
        dueBank("at the bottom", bottom, 0, 24);
    }

    // ---- lay

    private static void dueLay(String told, VillageBall x, int thing, int cell, int great) {
        Bounds.dueAll(told, new int[] {x.lay(thing, 0), x.lay(thing, 1)}, cell, great);
    }

    @Says(at = "==== 2", text = "so that THE BALL is as GREAT as can be when it RESTS, of like ones the first; how GREAT.")
    private static void promise20_lay_ofLikeOnesTheFirst() {
        dueLay("at rest all are alike", Check.ofText("00,00,00,00;l9@3"), 0, 0, 1);
        dueLay("all cells that it comes to", letGo("00,00,00,00;l5@3", 1, 1), 0, 0, 6);
        dueLay("a warm one: those that it leaps over", letGo(Check.cells("00", 7) + ";w5@0", 9, 20), 0, 1, 9);
        VillageBall past = letGo("00,00,00,00;w5@3", 9, 9);
        past.steps(2);
        dueLay("a warm one: those that it is past", past, 0, 0, 9);
    }

    @Says(at = "==== 2", text = "LAY for a THING that LIES: the CELL at which it should LIE")
    private static void promise20_lay_atNoOtherCellThanThereIs() {
        // It comes to every cell: only above the top or at the bottom would the warm one be missed.
        dueLay("a warm one", letGo("00,00,00,00;w3@2", 9, 5), 0, 0, 6);
        dueLay("a warm one", letGo(Check.cells("00", 24) + ";w3@2", 9, 5), 0, 0, 6);
    }

    @Says(at = "==== 2", text = "so that THE BALL is as GREAT as can be when it RESTS, of like ones the first; how GREAT.")
    private static void promise20_lay_atTheLastCell() {
        dueLay("it is great enough there", letGo("00,00,00,09;p9@0", 1, 5), 0, 3, 19);
        dueLay("it lies there", letGo("00,00,00,09;p9@3", 1, 5), 0, 3, 19);
    }

    @Says(at = "==== 2", text = "so that THE BALL is as GREAT as can be when it RESTS, of like ones the first; how GREAT.")
    private static void promise20_lay_onlyTheLastCellIsStillAheadOfIt() {
        VillageBall x = letGo("00,00,00,00;l5@0,l1@3", 1, 1);
        x.steps(3);
        // Anywhere else the ball is past it.
        dueLay("the last", x, 1, 3, 7);
    }

    // ---- spare

    private static void dueSpare(String told, VillageBall x, int thing, int many, int which) {
        Bounds.dueAll(told, new int[] {x.spare(thing, 0), x.spare(thing, 1)}, many, which);
    }

    @Says(at = "==== 2", text = "the fewest other THINGS that LIE, taken away now, so that it is not IN THE BALL when that"
        + " RESTS, of like ones the least set: how many; which; none.")
    private static void promise21_spare_0ThingsOfAnEmptySet() {
        dueSpare("at rest none is taken up", Check.ofText("00,00,00,00;l1@0"), 0, 0, 0);
        dueSpare("too heavy", letGo("00,00,00,00;p9@0", 1, 99), 0, 0, 0);
        VillageBall back = Villages.stepped("l1@0", 1, 1);
        back.go(1, 1);
        dueSpare("back", back, 0, 0, 0);
    }

    @Says(at = "==== 2", text = "the fewest other THINGS that LIE, taken away now, so that it is not IN THE BALL when that"
        + " RESTS, of like ones the least set: how many; which; none.")
    private static void promise21_spare_all7Others() {
        dueSpare("of the last", letGo("00,00,00,00;" + Check.cells("l1@0", 7) + ",p2@1", 1, 9), 7, 7, 127);
        dueSpare("of the first", letGo("00,00,00,00;p2@1," + Check.cells("l1@0", 7), 1, 9), 0, 7, 254);
    }

    @Says(at = "==== 2", text = "the fewest other THINGS that LIE, taken away now, so that it is not IN THE BALL when that"
        + " RESTS, of like ones the least set: how many; which; none.")
    private static void promise21_spare_ofLikeOnesTheLeastSet() {
        dueSpare("one of two", letGo("00,00,00,00;l2@0,l2@0,p5@1", 1, 9), 2, 1, 1);
        dueSpare("two of three", letGo("00,00,00,00;p4@1,l2@0,l2@0,l2@0", 1, 9), 0, 2, 6);
        dueSpare("one of a greater set, not two of a less", letGo("00,00,00,00;l1@0,l1@0,l2@0,p4@1", 1, 9), 3, 1, 4);
    }

    @Says(at = "==== 2", text = "the fewest other THINGS that LIE, taken away now, so that it is not IN THE BALL when that"
        + " RESTS, of like ones the least set: how many; which; none.")
    private static void promise21_spare_none() {
        dueSpare("it is taken up in any case", letGo("00,00,00,00;l1@0,l1@1", 1, 9), 1, NONE, NONE);
        VillageBall x = letGo("00,00,00,00;l4@0,p5@1", 1, 9);
        dueSpare("while the other one lies", x, 1, 1, 1);
        x.steps(1);
        dueSpare("the other one does not lie", x, 1, NONE, NONE);
        dueSpare("it is in the ball", x, 0, NONE, NONE);
    }
}
