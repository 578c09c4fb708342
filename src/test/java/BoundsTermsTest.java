import java.util.function.Supplier;

/** The bounds that the face and the first words of the terms name. */
public final class BoundsTermsTest {
    private static final int BAD = -1, NOT = -2, FULL = -3, NONE = -4, NULL = -11, CAST = -12, INDEX = -13, SIZE = -14;
    private static final Supplier<VillageBall> NEW = VillageBall::new;
    private static final Supplier<VillageBall> ROLLING = Villages::rolling;
    private static final Supplier<VillageBall> RESTING = Villages::resting;
    private static final Supplier<VillageBall> FULL_ONE = Villages::full;

    public static void main(String[] args) throws Exception {
        Bounds.run(BoundsTermsTest.class);
    }

    @Says(at = "The public face", text = "BAD = -1, NOT = -2, FULL = -3, NONE = -4, NULL = -11, CAST = -12,"
        + " INDEX = -13, SIZE = -14")
    private static void face_eachConstantIsItsNumber() {
        int[] constants = {VillageBall.BAD, VillageBall.NOT, VillageBall.FULL, VillageBall.NONE, VillageBall.NULL,
            VillageBall.CAST, VillageBall.INDEX, VillageBall.SIZE};
        Bounds.dueAll("the constants", constants, -1, -2, -3, -4, -11, -12, -13, -14);
    }

    @Says(at = "What it is", text = "An object is used for at most 512 calls after it has been made")
    private static void use_512CallsOfOneKindAreAllAnswered() {
        VillageBall goes = new VillageBall();
        VillageBall images = new VillageBall();
        VillageBall sheets = new VillageBall();
        VillageBall snows = new VillageBall();
        VillageBall villages = new VillageBall();
        for (int call = 1; call <= 512; call++) {
            Bounds.due("go " + call, goes.go(99, 99), 0);
            Bounds.due("image " + call, images.image(), 1);
            Bounds.due("sheet " + call, sheets.sheet(call % 4, call / 4 % 4, 24), 24);
            Bounds.due("snow " + call, snows.snow(1), Math.min(108, 24 + 12 * call));
            Bounds.due("village " + call, villages.village(), -20);
        }
    }

    @Says(at = "What it is", text = "An object is used for at most 512 calls after it has been made")
    private static void use_the512thCallIsAnsweredAsTheFirstOnes() {
        VillageBall x = new VillageBall();
        x.image();
        for (int round = 0; round < 102; round++) {
            Bounds.due("restore", x.restore(), 1);
            Bounds.due("go", x.go(1, 0), 0);
            Bounds.due("steps", x.steps(24), 10);
            Bounds.due("undo", x.undo(), 7);
            Bounds.due("ahead", x.ahead(1), 21);
        }
        Bounds.due("the 512th call", x.count(8), 7);
    }

    @Says(at = "Terms", text = "BAD -1 (a number is not as told, there is no such thing), NOT -2 (as told), FULL -3, NONE -4"
        + " (as told), CAST -12 (of SHEETS another LANE); what the machine finds: NULL -11, INDEX -13, SIZE -14")
    private static void terms_eachAnswerBelow0() {
        VillageBall x = Villages.full();
        Bounds.due("BAD: a number is not as told", x.snow(10), -1);
        Bounds.due("BAD: there is no such thing", x.of(8, 0), -1);
        Bounds.due("NOT", x.melt(1), -2);
        Bounds.due("FULL", x.thing(0, 0, 0), -3);
        Bounds.due("NONE", x.restore(), -4);
        Bounds.due("NULL", x.drop(0), -11);
        x.sheet(0, 0, 1);
        Bounds.due("CAST", x.item(0, 1, 0, 0), -12);
        Bounds.due("INDEX", x.item(0, 0, 1, 0), -13);
        Bounds.due("SIZE", x.sheet(0, 0, -1), -14);
    }

    @Says(at = "Terms", text = "Answers below 0, of several the first that a call names")
    private static void terms_ofSeveralAnswersTheFirst_BADaheadOfFULLandNOT() {
        VillageBall full = Villages.full();
        Bounds.due("thing of no kind, eight there are", full.thing(5, 0, 0), BAD);
        Bounds.due("thing too heavy, eight there are", full.thing(0, 10, 0), BAD);
        Bounds.due("thing at no cell, eight there are", full.thing(0, 0, 4), BAD);
        Bounds.due("no letter, 130 there are", full.type(127), BAD);
        Bounds.due("0 days, it does not rest", full.melt(0), BAD);
        Bounds.due("25 days, it does not rest", full.melt(25), BAD);
        VillageBall resting = Villages.resting();
        Bounds.due("0 steps, it rests", resting.steps(0), BAD);
        Bounds.due("25 steps, it rests", resting.steps(25), BAD);
        Bounds.due("lay what -1, it does not lie", resting.lay(0, -1), BAD);
        Bounds.due("lay what 2, it does not lie", resting.lay(0, 2), BAD);
        Bounds.due("spare what 2, none", resting.spare(0, 2), BAD);
        Bounds.due("the order below 0, none is in it", new VillageBall().order(-1), BAD);
    }

    @Says(at = "Terms", text = "Answers below 0, of several the first that a call names")
    private static void terms_ofSeveralAnswersTheFirst_BADaheadOfWhatTheMachineFinds() {
        VillageBall x = Villages.rolling();
        Bounds.due("seen, nothing there", x.seen(0, 3, 0, 0, 1, 0), BAD);
        Bounds.due("seen, another lane", x.seen(1, 0, 0, 0, 9, 0), BAD);
        Bounds.due("seen, no such item", x.seen(1, 0, 2, -1, 1, 2), BAD);
        Bounds.due("film, nothing there", x.film(0, 3, 0, 0), BAD);
        Bounds.due("film, another lane", x.film(25, 0, 0, 0), BAD);
        Bounds.due("film, no such item", x.film(0, 0, 2, 3), BAD);
        Bounds.due("sheet, fewer than none", x.sheet(4, 0, -1), BAD);
        Bounds.due("sheet, fewer than none", x.sheet(0, 4, -1), BAD);
        Bounds.due("item of no lane, nothing there", x.item(3, 4, 0, 0), BAD);
        Bounds.due("item of no lane, no such item", x.item(0, -1, 3, 0), BAD);
        Bounds.due("copy, nothing there", x.copy(3, 0, 4, 0, 1), BAD);
        Bounds.due("copy, nothing there", x.copy(-1, 0, 3, 0, 1), BAD);
        Bounds.due("copy, no such item", x.copy(0, 9, 4, 9, -1), BAD);
    }

    @Says(at = "Terms", text = "(NULL, CAST, INDEX, SIZE in this order)")
    private static void terms_whatTheMachineFindsComesInItsOrder() {
        VillageBall x = Villages.rolling();
        Bounds.due("seen: NULL ahead of INDEX", x.seen(1, 3, 0, -1, 1, 0), NULL);
        Bounds.due("seen: CAST ahead of INDEX", x.seen(1, 0, 0, 3, 1, 0), CAST);
        Bounds.due("film: NULL ahead of INDEX", x.film(1, 3, 0, -1), NULL);
        Bounds.due("film: CAST ahead of INDEX", x.film(24, 0, 0, 0), CAST);
        Bounds.due("item: NULL ahead of INDEX", x.item(3, 0, -1, 0), NULL);
        Bounds.due("item: CAST ahead of INDEX", x.item(0, 0, 3, 0), CAST);
        Bounds.due("copy: NULL ahead of INDEX", x.copy(0, 9, 3, 0, 1), NULL);
        Bounds.due("copy: NULL ahead of INDEX", x.copy(3, 9, 0, 0, 1), NULL);
        Bounds.due("copy: CAST ahead of INDEX", x.copy(0, 9, 1, 0, 1), CAST);
        Bounds.due("copy: CAST ahead of INDEX", x.copy(0, 0, 1, 0, -1), CAST);
    }

    @Says(at = "Terms", text = "What is refused changes nothing, but as told.")
    private static void terms_refusedChangesNothing_theSlopeAndThings() {
        Bounds.asked("cell -1", ROLLING, x -> x.cell(-1, 0, 1), BAD);
        Bounds.asked("cell 4 of 4", ROLLING, x -> x.cell(4, 1, 1), BAD);
        Bounds.asked("cell: what 2", ROLLING, x -> x.cell(0, 2, 1), BAD);
        Bounds.asked("cell: drop 10", ROLLING, x -> x.cell(0, 0, 10), BAD);
        Bounds.asked("cell: snow -1", ROLLING, x -> x.cell(0, 1, -1), BAD);
        Bounds.asked("at: cell 4 of 4", ROLLING, x -> x.at(4, 0), BAD);
        Bounds.asked("thing of kind 5", ROLLING, x -> x.thing(5, 0, 0), BAD);
        Bounds.asked("thing heavy by 10", ROLLING, x -> x.thing(0, 10, 0), BAD);
        Bounds.asked("thing at 4 of 4", ROLLING, x -> x.thing(0, 0, 4), BAD);
        Bounds.asked("a ninth thing", FULL_ONE, x -> x.thing(0, 0, 0), FULL);
        Bounds.asked("of thing 4 of 4", ROLLING, x -> x.of(4, 0), BAD);
        Bounds.asked("letter 31", ROLLING, x -> x.type(31), BAD);
        Bounds.asked("letter 127", ROLLING, x -> x.type(127), BAD);
        Bounds.asked("letter 131 of them", FULL_ONE, x -> x.type('2'), FULL);
        Bounds.asked("count 9", ROLLING, x -> x.count(9), BAD);
    }

    @Says(at = "Terms", text = "What is refused changes nothing, but as told.")
    private static void terms_refusedChangesNothing_whatIsDone() {
        Bounds.asked("go, great by 0", ROLLING, x -> x.go(0, 1), BAD);
        Bounds.asked("go, great by 100", ROLLING, x -> x.go(100, 1), BAD);
        Bounds.asked("go, fast by -1", ROLLING, x -> x.go(1, -1), BAD);
        Bounds.asked("go, fast by 100", ROLLING, x -> x.go(1, 100), BAD);
        Bounds.asked("0 steps", ROLLING, x -> x.steps(0), BAD);
        Bounds.asked("25 steps", ROLLING, x -> x.steps(25), BAD);
        Bounds.asked("a step at rest", RESTING, x -> x.steps(1), NOT);
        Bounds.asked("0 days", RESTING, x -> x.melt(0), BAD);
        Bounds.asked("25 days", RESTING, x -> x.melt(25), BAD);
        Bounds.asked("a day while it rolls", ROLLING, x -> x.melt(1), NOT);
        Bounds.asked("snow by 0", ROLLING, x -> x.snow(0), BAD);
        Bounds.asked("snow by 10", ROLLING, x -> x.snow(10), BAD);
        Bounds.asked("a drift of 0", ROLLING, x -> x.drift(0), BAD);
        Bounds.asked("a drift of 41", ROLLING, x -> x.drift(41), BAD);
        Bounds.asked("nothing to be undone", NEW, x -> x.undo(), NONE);
        Bounds.asked("a seed below 0", ROLLING, x -> x.seed(-1), BAD);
    }

    @Says(at = "Terms", text = "What is refused changes nothing, but as told.")
    private static void terms_refusedChangesNothing_whatIsForetold() {
        Bounds.asked("ahead 5", ROLLING, x -> x.ahead(5), BAD);
        Bounds.asked("order -1", ROLLING, x -> x.order(-1), BAD);
        Bounds.asked("push at rest", RESTING, x -> x.push(), NOT);
        Bounds.asked("bank 2", ROLLING, x -> x.bank(2), BAD);
        Bounds.asked("lay for no thing", ROLLING, x -> x.lay(4, 0), BAD);
        Bounds.asked("lay for one in the ball", ROLLING, x -> x.lay(0, 0), NOT);
        Bounds.asked("spare for no thing", ROLLING, x -> x.spare(4, 0), BAD);
        Bounds.asked("spare for one in the ball", ROLLING, x -> x.spare(0, 0), NONE);
        Bounds.asked("no image", NEW, x -> x.restore(), NONE);
    }

    @Says(at = "Terms", text = "What is refused changes nothing, but as told.")
    private static void terms_refusedChangesNothing_sheets() {
        Bounds.asked("seen of 9", ROLLING, x -> x.seen(1, 0, 2, 0, 9, 0), BAD);
        Bounds.asked("seen in nothing", ROLLING, x -> x.seen(1, 3, 2, 0, 1, 0), NULL);
        Bounds.asked("seen in another lane", ROLLING, x -> x.seen(1, 0, 1, 0, 1, 0), CAST);
        Bounds.asked("seen too far", ROLLING, x -> x.seen(1, 0, 2, 1, 3, 0), INDEX);
        Bounds.asked("film of 25", ROLLING, x -> x.film(25, 0, 2, 0), BAD);
        Bounds.asked("film to nothing", ROLLING, x -> x.film(1, 3, 2, 0), NULL);
        Bounds.asked("film to another lane", ROLLING, x -> x.film(1, 0, 1, 0), CAST);
        Bounds.asked("film too far", ROLLING, x -> x.film(3, 0, 2, 1), INDEX);
        Bounds.asked("film ahead of the first", ROLLING, x -> x.film(3, 0, 2, -1), INDEX);
        Bounds.asked("a sheet of 25", ROLLING, x -> x.sheet(0, 2, 25), BAD);
        Bounds.asked("a sheet of -1", ROLLING, x -> x.sheet(0, 2, -1), SIZE);
        Bounds.asked("drop of nothing", ROLLING, x -> x.drop(3), NULL);
        Bounds.asked("drop of no sheet", ROLLING, x -> x.drop(4), BAD);
        Bounds.asked("item of another lane", ROLLING, x -> x.item(0, 1, 0, 4), CAST);
        Bounds.asked("item -1", ROLLING, x -> x.item(0, 2, -1, 4), INDEX);
        Bounds.asked("item 3 of 3", ROLLING, x -> x.item(0, 2, 3, 4), INDEX);
        Bounds.asked("copy to nothing", ROLLING, x -> x.copy(0, 0, 3, 0, 1), NULL);
        Bounds.asked("copy to another lane", ROLLING, x -> x.copy(0, 0, 1, 0, 1), CAST);
        Bounds.asked("copy of -1", ROLLING, x -> x.copy(0, 0, 0, 1, -1), INDEX);
        Bounds.asked("copy too far", ROLLING, x -> x.copy(0, 0, 0, 1, 3), INDEX);
    }

    @Says(at = "Terms", text = "Sets are bits.")
    private static void terms_setsAreBits_none_theEighthAlone_allEight() {
        VillageBall x = Check.ofText("10,00,00,00;" + Check.cells("l0@0", 8));
        Bounds.due("none lies at 1", x.at(1, 2), 0);
        Bounds.due("all eight lie at 0", x.at(0, 2), 255);
        Bounds.due("none is in it", x.count(6), 0);
        x.go(1, 0);
        Bounds.due("all eight will be in it", x.ahead(2), 255);
        x.steps(1);
        Bounds.due("all eight are in it", x.count(6), 255);
        VillageBall eighth = Check.ofText("10,00,00,00;" + Check.cells("l0@3", 7) + ",l0@0");
        Bounds.due("the eighth lies at 0", eighth.at(0, 2), 128);
        eighth.go(1, 0);
        eighth.steps(1);
        Bounds.due("the eighth is in it", eighth.count(6), 128);
    }

    @Says(at = "Terms", text = "What is divided is cut.")
    private static void terms_whatIsDividedIsCut() {
        Bounds.due("a tenth of 9", Villages.stepped("", 9, 9).count(4), 9);
        Bounds.due("a tenth of 19", Villages.stepped("", 19, 9).count(4), 8);
        Bounds.due("a tenth of 99", Villages.stepped("", 99, 19).count(4), 10);
        Bounds.due("20 in 19", Villages.stepped("", 1, 19).count(2), 1);
        Bounds.due("20 in 39", Villages.stepped("", 1, 39).count(2), 2);
        VillageBall x = Villages.stepped("", 29, 0);
        Bounds.due("29 less a tenth, and 1", x.melt(1), 26);
        VillageBall y = Villages.level(4);
        // The draw behind this seed is one less than 65536.
        y.seed(Villages.seedAheadOf(65535));
        y.drift(1);
        Bounds.due("65536 in 65535", y.at(0, 1), 1);
        Bounds.due("the draw", y.seed(0), 65535);
    }
}
