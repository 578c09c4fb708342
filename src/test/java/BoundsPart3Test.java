import java.util.function.Supplier;

/** The bounds that part 3 of the terms names: seen, undone, the draw, a village as a text and its faults. */
public final class BoundsPart3Test {
    private static final int BAD = -1, NONE = -4;
    private static final Supplier<VillageBall> ROLLING = Villages::rolling;

    public static void main(String[] args) throws Exception {
        Bounds.run(BoundsPart3Test.class);
    }

    // ---- seen

    private static void dueSeen(String told, VillageBall x, int great, int i, int n, int many, int least) {
        int[] got = {x.seen(great, 0, 2, i, n, 0), x.seen(great, 0, 2, i, n, 1)};
        Bounds.dueAll(told, got, many, least);
    }

    @Says(at = "==== 3", text = "behind each of n STEPS (1 .. 8; where it RESTS it is on), LET GO now, GREAT by g")
    private static void promise24_seen_1To8Steps() {
        VillageBall x = Villages.level(24);
        Villages.row(x, 1, 2, 3, 4, 5, 6, 7, 8, 9);
        dueSeen("1", x, 1, 0, 1, 19, 1);
        dueSeen("8", x, 1, 0, 8, 19, 1);
        dueSeen("8 from the second on", x, 1, 1, 8, 0, NONE);
        x.item(0, 2, 7, 9);
        dueSeen("the eighth counts", x, 1, 0, 8, 0, NONE);
        dueSeen("7 are so", x, 1, 0, 7, 19, 1);
        Bounds.bad("seen", ROLLING, (y, n) -> y.seen(1, 0, 2, 0, n, 0), 0, 9, -1);
    }

    @Says(at = "==== 3", text = "behind each of n STEPS (1 .. 8; where it RESTS it is on), LET GO now, GREAT by g")
    private static void promise24_seen_whereItRestsItIsOn() {
        VillageBall x = Villages.level(4);
        Villages.row(x, 0, 0, 0, 0, 0, 0, 0, 0, 4, 4, 4, 4, 4, 4, 4, 4, 3, 4, 4, 0, 1);
        dueSeen("8 times at the top", x, 1, 0, 8, 1, 0);
        dueSeen("8 times at the bottom", x, 1, 8, 8, 40, 60);
        dueSeen("then at the bottom twice", x, 1, 16, 3, 20, 40);
        dueSeen("it does not go on from rest", x, 1, 19, 2, 0, NONE);
    }

    @Says(at = "==== 3", text = "behind each of n STEPS (1 .. 8; where it RESTS it is on), LET GO now, GREAT by g")
    private static void promise24_seen_whereItRestsItIsOn_thoughTheSlopeDrops() {
        // The first thing stops it, the second makes it great enough for the first: a step more would go on.
        VillageBall x = Check.ofText("90,90,90,90;p9@0,l9@0");
        Villages.row(x, 0, 0, 0, 0, 0, 0, 0, 0, 1);
        dueSeen("8 times at 0", x, 1, 0, 8, 1, 0);
        dueSeen("it does not go on from there", x, 1, 7, 2, 0, NONE);
    }

    @Says(at = "==== 3", text = "by how much it might be FAST (0 .. 99) so that it would be so: how many such numbers;"
        + " the least; none.")
    private static void promise24_seen_fastBy0To99() {
        VillageBall x = Villages.level(24);
        Villages.row(x, 0, 1, 2, 3, 4, 5, 6);
        dueSeen("0 is tried", x, 1, 0, 1, 1, 0);
        dueSeen("1 to 19", x, 1, 1, 1, 19, 1);
        dueSeen("20 to 39", x, 1, 2, 1, 20, 20);
        dueSeen("60 to 79", x, 1, 4, 1, 20, 60);
        dueSeen("80 to 99 are tried", x, 1, 5, 1, 20, 80);
        dueSeen("100 is not, of 120 none", x, 1, 6, 1, 0, NONE);
    }

    @Says(at = "==== 3", text = "by how much it might be FAST (0 .. 99) so that it would be so: how many such numbers;"
        + " the least; none.")
    private static void promise24_seen_99Alone() {
        // Great by 99, then by 108: 99 less 9, less 10 is 80, which is just enough for a leap of five.
        VillageBall x = Check.ofText("09," + Check.cells("00", 23));
        Villages.row(x, 5, 10);
        dueSeen("99 alone", x, 99, 0, 2, 1, 99);
    }

    @Says(at = "==== 3", text = "by how much it might be FAST (0 .. 99) so that it would be so: how many such numbers;"
        + " the least; none.")
    private static void promise24_seen_noneIsSoAtNoPlaceOfTheSlope() {
        VillageBall x = Villages.level(4);
        Villages.rowOf(x, 0, 3, -1, 5, Long.MAX_VALUE, Long.MIN_VALUE, 1L << 32, (1L << 32) + 4);
        for (int i = 0; i < 6; i++) {
            Bounds.due("how many", x.seen(1, 0, 3, i, 1, 0), 0);
            Bounds.due("the least", x.seen(1, 0, 3, i, 1, 1), NONE);
        }
    }

    // ---- undone

    @Says(at = "==== 3", text = "(8 are known, older ones lost)")
    private static void promise14_undone_8AreKnown() {
        VillageBall x = Villages.level(24);
        for (int k = 1; k <= 8; k++) {
            x.go(k, 0);
            Bounds.due("known", x.count(8), k);
        }
        for (int k = 7; k >= 1; k--) {
            Bounds.due("undo", x.undo(), k);
            Bounds.due("great", x.count(3), k);
        }
        Bounds.due("the eighth", x.undo(), 0);
        Bounds.due("it rests as at first", x.count(5), 1);
        Bounds.due("no ninth", x.undo(), NONE);
    }

    @Says(at = "==== 3", text = "(8 are known, older ones lost)")
    private static void promise14_undone_olderOnesAreLost() {
        for (int goes = 9; goes <= 18; goes++) {
            VillageBall x = Villages.level(4);
            for (int k = 1; k <= goes; k++) {
                x.go(k, 0);
            }
            Bounds.due("known", x.count(8), 8);
            for (int k = 1; k <= 8; k++) {
                Bounds.due("undo", x.undo(), 8 - k);
                Bounds.due("great", x.count(3), goes - k);
            }
            Bounds.due("the ninth is lost", x.undo(), NONE);
            Bounds.due("nothing is changed", x.count(3), goes - 8);
        }
    }

    @Says(at = "==== 3", text = "(8 are known, older ones lost)")
    private static void promise14_undone_stepsAndDaysOfOneCallCountEach() {
        VillageBall x = Villages.level(24);
        x.go(50, 99);
        Bounds.due("steps", x.steps(24), 6);
        Bounds.due("letting go, 6 steps", x.count(8), 7);
        x.melt(1);
        Bounds.due("a day more", x.count(8), 8);
        x.melt(24);
        Bounds.due("24 days: 8 are known", x.count(8), 8);
        for (int k = 7; k >= 0; k--) {
            Bounds.due("undo", x.undo(), k);
        }
        Bounds.due("no ninth", x.undo(), NONE);
    }

    @Says(at = "==== 3", text = "(8 are known, older ones lost)")
    private static void promise14_undone_makesRoomAgain() {
        VillageBall x = Villages.level(4);
        for (int k = 1; k <= 10; k++) {
            x.go(k, 0);
        }
        for (int k = 0; k < 3; k++) {
            x.undo();
        }
        Bounds.due("five", x.count(8), 5);
        for (int k = 11; k <= 14; k++) {
            x.go(k, 0);
        }
        Bounds.due("eight", x.count(8), 8);
        int[] great = {13, 12, 11, 7, 6, 5, 4, 3};
        for (int k = 0; k < 8; k++) {
            Bounds.due("undo", x.undo(), 7 - k);
            Bounds.due("great", x.count(3), great[k]);
        }
        Bounds.due("no ninth", x.undo(), NONE);
    }

    @Says(at = "==== 3", text = "THE BALL, SNOW, where THINGS are, the order, THE DRAW are as ahead of it, whatever was told since")
    private static void promise14_undone_whateverWasToldSince() {
        VillageBall x = Villages.level(4);
        x.go(7, 0);
        x.cell(3, 1, 9);
        x.cell(3, 0, 9);
        x.seed(99);
        Bounds.due("undo", x.undo(), 0);
        Bounds.due("snow", x.at(3, 1), 0);
        Bounds.due("drop is not of it", x.at(3, 0), 9);
        Bounds.due("the draw", x.seed(0), 1);
        Bounds.due("the ball", x.count(3), 1);
    }

    @Says(at = "==== 3", text = "THE BALL, SNOW, where THINGS are, the order, THE DRAW are as ahead of it, whatever was told since")
    private static void promise14_undone_whatIsBackLiesOrIsInItAgain() {
        VillageBall x = Villages.stepped("l1@0,l2@0", 1, 1);
        x.go(1, 1);
        Bounds.due("back", x.of(1, 4), 1);
        Bounds.due("undo", x.undo(), 2);
        Bounds.dueAll("in it again", Check.ofThing(x, 1), 1, 2, NONE, 1, 0);
        Bounds.due("undo", x.undo(), 1);
        Bounds.dueAll("it lies again", Check.ofThing(x, 1), 1, 2, 0, NONE, 0);
    }

    @Says(at = "==== 3", text = "THE BALL, SNOW, where THINGS are, the order, THE DRAW are as ahead of it, whatever was told since")
    private static void promise14_undone_theOrderThoughAnotherOneCame() {
        VillageBall x = Check.ofText("10,10,00,00;l1@1,l2@0,l3@2,l4@3");
        x.go(1, 0);
        x.steps(2);
        Bounds.dueAll("1, then 0", new int[] {x.of(1, 3), x.of(0, 3)}, 0, 1);
        x.go(1, 5);
        x.steps(24);
        Bounds.dueAll("2, then 3", new int[] {x.of(2, 3), x.of(3, 3)}, 0, 1);
        while (x.count(8) > 3) {
            x.undo();
        }
        Bounds.dueAll("1, then 0 again", new int[] {x.of(1, 3), x.of(0, 3)}, 0, 1);
        Bounds.dueAll("the others lie", new int[] {x.of(2, 2), x.of(3, 2)}, 2, 3);
        Bounds.dueAll("foretold, too", new int[] {x.order(0), x.order(1), x.order(2), x.order(3)}, 1, 0, 2, 3);
    }

    @Says(at = "==== 3", text = "a VILLAGE, a new THING leave nothing to be UNDONE")
    private static void promise14_undone_nothingBehindAVillage() {
        VillageBall x = Villages.rolling();
        x.village();
        Bounds.due("a fault leaves all", x.count(8), 3);
        Check.read(x, "00,00,00,00");
        Bounds.due("none is known", x.count(8), 0);
        Bounds.due("none is undone", x.undo(), NONE);
    }

    @Says(at = "==== 3", text = "a VILLAGE, a new THING leave nothing to be UNDONE")
    private static void promise14_undone_nothingBehindANewThing() {
        VillageBall x = Villages.rolling();
        Bounds.due("refused, it leaves all", x.thing(5, 0, 0), BAD);
        Bounds.due("three", x.count(8), 3);
        Bounds.due("a new one", x.thing(0, 0, 0), 4);
        Bounds.due("none is known", x.count(8), 0);
        Bounds.due("none is undone", x.undo(), NONE);
        x.snow(1);
        Bounds.due("the next one is", x.undo(), 0);
        Bounds.due("the thing stays", x.count(1), 5);
    }

    // ---- the draw

    @Says(at = "==== 3", text = "THE DRAW is a number of 31 bits (1 at first)")
    private static void promise15_draw_1AtFirst_0To31Bits() {
        VillageBall x = new VillageBall();
        Bounds.due("at first", x.seed(0), 1);
        Bounds.due("0 may be", x.seed(Integer.MAX_VALUE), 0);
        Bounds.due("31 bits may be", x.seed(1), Integer.MAX_VALUE);
        Bounds.bad("seed", ROLLING, VillageBall::seed, -1, Integer.MIN_VALUE);
    }

    private static void dueDraw(int seed, long want) {
        VillageBall x = new VillageBall();
        x.seed(seed);
        x.drift(1);
        Bounds.due("the draw behind " + seed, x.seed(0), want);
    }

    @Says(at = "==== 3", text = "it becomes the lowest 31 bits of itself times 1103515245 and 12345 more")
    private static void promise13_draw_wrapsAround() {
        dueDraw(0, 12345);
        dueDraw(1, 1103527590L);
        // 2 times the factor is 2207030490, which is above 31 bits by 59546842.
        dueDraw(2, 59546842 + 12345);
        dueDraw(3, 1163062087L + 12345);
        // 31 bits are -1 there: less by the factor.
        dueDraw(Integer.MAX_VALUE, (1L << 31) - 1103515245L + 12345);
        dueDraw(1 << 30, (1L << 30) + 12345);
        int most = Villages.seedAheadOf(Integer.MAX_VALUE);
        dueDraw(most, Integer.MAX_VALUE);
        int none = Villages.seedAheadOf(0);
        dueDraw(none, 0);
    }

    private static void dueFall(int cells, int draw, int cell) {
        VillageBall x = Villages.level(cells);
        x.seed(Villages.seedAheadOf(draw));
        Bounds.due("a drift", x.drift(1), 1);
        Bounds.due("draw " + draw + " of " + cells + " cells", x.at(cell, 1), 1);
    }

    @Says(at = "==== 3", text = "on the CELL that is it by 65536, left over by how many there are")
    private static void promise13_draw_firstAndLastCell() {
        for (int cells : new int[] {4, 5, 23, 24}) {
            dueFall(cells, 0, 0);
            dueFall(cells, 65535, 0);
            dueFall(cells, 65536, 1);
            dueFall(cells, 65536 * cells - 1, cells - 1);
            dueFall(cells, 65536 * cells, 0);
            dueFall(cells, Integer.MAX_VALUE, 32767 % cells);
        }
    }

    @Says(at = "==== 3", text = "1 SNOW more falls (9 at most)")
    private static void promise13_draw_snow9AtMost() {
        VillageBall x = Check.ofText("09,08,00,00");
        x.seed(Villages.seedAheadOf(0));
        Bounds.due("on 9", x.drift(1), 17);
        x.seed(Villages.seedAheadOf(65536));
        Bounds.due("on 8", x.drift(1), 18);
        x.seed(Villages.seedAheadOf(65536));
        Bounds.due("on 9 by then", x.drift(1), 18);
        Bounds.dueAll("snow", Check.snows(x), 9, 9, 0, 0);
    }

    // ---- a village

    private static void dueText(String text, int want) {
        Bounds.due("\"" + text + "\"", Check.read(new VillageBall(), text), want);
    }

    /** The fault; all else is as it was, the tape is empty. */
    private static void dueFault(String text, int place) {
        Bounds.asked("\"" + text + "\"", VillageBall::new, x -> Check.read(x, text), -20 - place);
    }

    @Says(at = "==== 3", text = "A VILLAGE is a TEXT: 4 to 24 CELLS with , between")
    private static void promise07_village_4To24Cells() {
        dueFault("", 0);
        for (int cells = 1; cells < 4; cells++) {
            dueFault(Check.cells("12", cells), 3 * cells - 1);
            dueFault(Check.cells("12", cells) + ";p1@0", 3 * cells - 1);
        }
        for (int cells = 4; cells <= 24; cells++) {
            dueText(Check.cells("12", cells), cells);
        }
        dueFault(Check.cells("12", 24) + ",", 71);
        dueFault(Check.cells("12", 25), 71);
    }

    @Says(at = "==== 3", text = "A VILLAGE is a TEXT: 4 to 24 CELLS with , between")
    private static void promise07_village_commasOnlyBetween() {
        dueFault(",12,12,12,12", 0);
        dueFault("12,,12,12,12", 3);
        dueFault("12,12,12,12,", 12);
        dueFault("12,12,12,12,;p1@0", 12);
        dueFault("12 12,12,12", 3);
    }

    @Says(at = "==== 3", text = "each a digit (DROP), a digit (SNOW)")
    private static void promise07_village_twoDigitsEach() {
        VillageBall x = Check.ofText("09,90,00,99");
        Bounds.dueAll("snow", Check.snows(x), 9, 0, 0, 9);
        Bounds.due("drop 0", x.at(0, 0), 0);
        Bounds.due("drop 9", x.at(1, 0), 9);
        dueFault("1,12,12,12", 1);
        dueFault("1", 1);
        dueFault("123,12,12,12", 2);
        dueFault("/2,12,12,12", 0);
        dueFault(":2,12,12,12", 0);
        dueFault("1/,12,12,12", 1);
        dueFault("1:,12,12,12", 1);
        dueFault("-1,12,12,12", 0);
    }

    @Says(at = "==== 3", text = "then perhaps ; and 1 to 8 THINGS with , between")
    private static void promise07_village_1To8Things() {
        dueText("12,12,12,12", 4);
        dueFault("12,12,12,12;", 12);
        for (int things = 1; things <= 8; things++) {
            VillageBall x = Check.ofText("12,12,12,12;" + Check.cells("w3@1", things));
            Bounds.due("things", x.count(1), things);
        }
        dueFault("12,12,12,12;" + Check.cells("w3@1", 8) + ",", 51);
        dueFault("12,12,12,12;" + Check.cells("w3@1", 9), 51);
        dueFault("12,12,12,12;w3@1,", 17);
        dueFault("12,12,12,12;,w3@1", 12);
        dueFault("12,12,12,12;w3@1;", 16);
        dueFault("12,12,12,12;w3@1 w3@1", 17);
        dueFault("12,12,12,12;;w3@1", 12);
    }

    @Says(at = "==== 3", text = "p l s w g (KINDS in this order), a digit (HEAVY), then @")
    private static void promise07_village_kindHeavyAt() {
        VillageBall x = Check.ofText("12,12,12,12;p0@0,l9@1,s1@2,w2@3,g3@0");
        for (int t = 0; t < 5; t++) {
            Bounds.due("kind of " + t, x.of(t, 0), t);
        }
        Bounds.due("heavy by 0", x.of(0, 1), 0);
        Bounds.due("heavy by 9", x.of(1, 1), 9);
        for (char letter : "PLSWGaoqkmrtvxfh@,;0 ".toCharArray()) {
            int place = letter == ' ' ? 13 : 12;
            dueFault("12,12,12,12;" + letter + "1@0", place);
        }
        dueFault("12,12,12,12;p@0", 13);
        dueFault("12,12,12,12;p/@0", 13);
        dueFault("12,12,12,12;p:@0", 13);
        dueFault("12,12,12,12;p10@0", 14);
        dueFault("12,12,12,12;p10", 14);
        dueFault("12,12,12,12;p1", 14);
        dueFault("12,12,12,12;p1@", 15);
        dueFault("12,12,12,12;p1@@0", 15);
    }

    @Says(at = "==== 3", text = "and a number of a CELL there is")
    private static void promise07_village_aCellThereIs() {
        dueText("12,12,12,12;p1@0", 4);
        dueText("12,12,12,12;p1@3", 4);
        dueFault("12,12,12,12;p1@4", 15);
        dueFault("12,12,12,12;p1@9", 15);
        dueFault("12,12,12,12;p1@10", 15);
        dueFault("12,12,12,12;p1@99", 15);
        dueFault("12,12,12,12;p1@-1", 15);
        VillageBall x = Check.ofText(Check.cells("12", 24) + ";p1@23,p1@9,p1@10,p1@0");
        int[] cells = {x.of(0, 2), x.of(1, 2), x.of(2, 2), x.of(3, 2)};
        Bounds.dueAll("where they lie", cells, 23, 9, 10, 0);
        dueFault(Check.cells("12", 24) + ";p1@24", 75);
        dueFault(Check.cells("12", 23) + ";p1@23", 72);
    }

    @Says(at = "==== 3", text = "in place of THE SLOPE, of all THINGS; THE BALL as at first (THE DRAW stays)")
    private static void promise07_village_inPlaceOfAll_evenOfAFullOne() {
        VillageBall x = Villages.full();
        x.village();
        x.seed(Integer.MAX_VALUE);
        x.steps(24);
        Bounds.due("a village", Check.read(x, "00,00,00,00,00"), 5);
        Bounds.dueAll("count", Check.counts(x), 5, 0, 0, 1, 0, 1, 0, 0, 0);
        Bounds.due("no thing of old", x.of(0, 0), BAD);
        Bounds.due("the draw stays", x.seed(0), Integer.MAX_VALUE);
        Bounds.due("things come from 0 on", x.thing(0, 0, 4), 0);
    }

    @Says(at = "==== 3", text = "Numbers have 1 or 2 digits.")
    private static void promise07_village_numbersOf1Or2Digits() {
        String cells = Check.cells("12", 24);
        dueText(cells + ";p1@3", 24);
        dueText(cells + ";p1@03", 24);
        dueText(cells + ";p1@00", 24);
        dueText(cells + ";p1@23", 24);
        dueFault(cells + ";p1@003", 77);
        dueFault(cells + ";p1@230", 77);
        dueFault(cells + ";p1@000", 77);
        VillageBall x = Check.ofText(cells + ";p1@07,p1@7");
        Bounds.due("07 is 7", x.of(0, 2), x.of(1, 2));
    }

    @Says(at = "==== 3", text = "FAULTS: -20 less the place of the first letter (behind blanks) that can't stand there")
    private static void promise07_fault_firstLetterBehindBlanks() {
        dueFault("x", 0);
        dueFault("   x", 3);
        dueFault("1   x", 4);
        dueFault("12   x", 5);
        dueFault("12,   x", 6);
        dueFault("12,12,12,12   x", 14);
        dueFault("12,12,12,12;   x", 15);
        dueFault("12,12,12,12;p   x", 16);
        dueFault("12,12,12,12;p1   x", 17);
        dueFault("12,12,12,12;p1@   x", 18);
        dueFault("12,12,12,12;p1@1   x", 19);
        dueFault("12,12,12,12;p1@1,   x", 20);
        dueFault("xx;xx", 0);
    }

    @Says(at = "==== 3", text = "or of the number's first digit, if it is not as told")
    private static void promise07_fault_theNumbersFirstDigit() {
        dueFault("12,12,12,12;p1@4", 15);
        dueFault("12,12,12,12;p1@04", 15);
        dueFault("12,12,12,12;p1@   10", 18);
        dueFault("12,12,12,12;p1@10x", 15);
        dueFault("12,12,12,12;p1@1,p1@12,x", 20);
    }

    @Says(at = "==== 3", text = "(the end: how many there are)")
    private static void promise07_fault_atTheEnd() {
        dueFault("", 0);
        dueFault("1", 1);
        dueFault("12", 2);
        dueFault("12,", 3);
        dueFault("12,12,12", 8);
        dueFault("12,12,12  ", 10);
        dueFault("12,12,12,12;p", 13);
        dueFault("12,12,12,12;p1@  ", 17);
        VillageBall x = new VillageBall();
        Bounds.due("130 blanks", Check.read(x, " ".repeat(130)), -150);
    }

    @Says(at = "==== 3", text = "blanks count for nothing, but end a number")
    private static void promise07_blanks_countForNothing() {
        dueText(" 1 2 , 1 2 , 1 2 , 1 2 ", 4);
        VillageBall x = Check.ofText("  9 1,8  2,73 ,6 4 ;  p  5  @  03  , l6@1 ");
        Bounds.dueAll("snow", Check.snows(x), 1, 2, 3, 4);
        Bounds.dueAll("of 0", Check.ofThing(x, 0), 0, 5, 3, NONE, 0);
        Bounds.dueAll("of 1", Check.ofThing(x, 1), 1, 6, 1, NONE, 0);
        String text = Check.cells("12", 4);
        dueText(text + " ".repeat(130 - text.length()), 4);
        dueText(" ".repeat(130 - text.length()) + text, 4);
    }

    @Says(at = "==== 3", text = "blanks count for nothing, but end a number")
    private static void promise07_blanks_behindTheLastThatMayBe() {
        String cells = Check.cells("12", 24);
        String things = Check.cells("p1@0", 8);
        dueText(cells + "   ", 24);
        dueFault(cells + "   ,12", 74);
        dueText(cells + "   ;" + things + "   ", 24);
        dueFault(cells + ";" + things + "   ,p1@0", 114);
        dueFault(cells + ";" + things + "   x", 114);
    }

    @Says(at = "==== 3", text = "blanks count for nothing, but end a number")
    private static void promise07_blanks_endANumber() {
        String cells = Check.cells("12", 24);
        dueFault(cells + ";p1@1 2", 77);
        dueFault(cells + ";p1@1  2", 78);
        dueFault(cells + ";p1@0 ,p1@0 0", 83);
        VillageBall x = Check.ofText(cells + ";p1@1 ,p1@12 ");
        Bounds.due("1", x.of(0, 2), 1);
        Bounds.due("12", x.of(1, 2), 12);
    }
}
