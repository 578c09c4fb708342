/** Promises 1 to 8: a new object, the slope, things, villages as texts. */
public final class SlopeTest {
    private static final int BAD = -1, FULL = -3, NONE = -4;
    private static final Check check = new Check("SlopeTest");

    public static void main(String[] args) {
        newObject();
        cell();
        at();
        thing();
        of();
        type();
        villageReplacesAll();
        villageFaults();
        faultLeavesAllElse();
        count();
        check.end();
    }

    private static void newObject() {
        check.promise(1);
        VillageBall x = new VillageBall();
        check.dueAll("count", Check.counts(x), 12, 0, 0, 1, 0, 1, 0, 24, 0);
        for (int c = 0; c < 12; c++) {
            check.due("drop at " + c, x.at(c, 0), 3);
            check.due("snow at " + c, x.at(c, 1), 2);
            check.due("things at " + c, x.at(c, 2), 0);
        }
        check.due("no cell 12", x.at(12, 0), BAD);
        check.due("no thing 0", x.of(0, 0), BAD);
        check.due("the draw", x.seed(7), 1);
        check.due("nothing to undo", x.undo(), NONE);
        check.due("no image", x.restore(), NONE);
        for (int s = 0; s < 4; s++) {
            check.due("no row in sheet " + s, x.drop(s), -11);
        }
        check.due("the tape is empty", x.type('1'), 1);
    }

    private static void cell() {
        check.promise(2);
        VillageBall x = new VillageBall();
        check.due("drop of 0", x.cell(0, 0, 9), 3);
        check.due("drop of 0 again", x.cell(0, 0, 0), 9);
        check.due("snow of 11", x.cell(11, 1, 0), 2);
        check.due("snow of 11 again", x.cell(11, 1, 9), 0);
        check.due("snow of 0 is as it was", x.at(0, 1), 2);
        check.due("drop of 11 is as it was", x.at(11, 0), 3);
        check.due("drop of 0 is told", x.at(0, 0), 0);
        check.due("snow of 11 is told", x.at(11, 1), 9);
        int[][] wrong = {{-1, 0, 1}, {12, 0, 1}, {Integer.MIN_VALUE, 1, 1}, {Integer.MAX_VALUE, 1, 1},
            {3, -1, 1}, {3, 2, 1}, {3, 0, -1}, {3, 0, 10}, {3, 1, -1}, {3, 1, 10}};
        for (int[] w : wrong) {
            check.due("wrong cell", x.cell(w[0], w[1], w[2]), BAD);
        }
        check.due("what is refused changes no drop", x.at(3, 0), 3);
        check.due("what is refused changes no snow", x.at(3, 1), 2);
        x.go(1, 0);
        x.cell(4, 1, 7);
        check.due("it is nothing to be undone", x.count(8), 1);
    }

    private static void at() {
        check.promise(3);
        VillageBall x = Check.ofText("12,34,56,78;p9@2,l1@0,s9@2");
        for (int c = 0; c < 4; c++) {
            check.due("drop", x.at(c, 0), 2 * c + 1);
            check.due("snow", x.at(c, 1), 2 * c + 2);
        }
        check.due("things at 0", x.at(0, 2), 2);
        check.due("things at 1", x.at(1, 2), 0);
        check.due("things at 2", x.at(2, 2), 5);
        x.go(1, 0);
        x.steps(1);
        check.due("taken up, it does not lie there", x.at(0, 2), 0);
        check.due("snow is gone", x.at(0, 1), 0);
        check.due("drop stays", x.at(0, 0), 1);
        check.due("cell -1", x.at(-1, 0), BAD);
        check.due("cell 4", x.at(4, 2), BAD);
        check.due("what -1", x.at(0, -1), BAD);
        check.due("what 3", x.at(0, 3), BAD);
    }

    private static void thing() {
        check.promise(4);
        VillageBall x = new VillageBall();
        x.go(1, 0);
        int[][] wrong = {{-1, 0, 0}, {5, 0, 0}, {0, -1, 0}, {0, 10, 0}, {0, 0, -1}, {0, 0, 12}};
        for (int[] w : wrong) {
            check.due("wrong thing", x.thing(w[0], w[1], w[2]), BAD);
        }
        check.due("what is refused leaves what may be undone", x.count(8), 1);
        for (int t = 0; t < 8; t++) {
            check.due("thing " + t, x.thing(t % 5, t + 2, 11 - t), t);
            check.due("how many", x.count(1), t + 1);
            check.dueAll("of", Check.ofThing(x, t), t % 5, t + 2, 11 - t, NONE, 0);
        }
        check.due("a new thing leaves nothing to be undone", x.undo(), NONE);
        x.snow(1);
        check.due("a ninth", x.thing(0, 0, 0), FULL);
        check.due("how many", x.count(1), 8);
        for (int[] w : wrong) {
            check.due("BAD comes ahead of FULL", x.thing(w[0], w[1], w[2]), BAD);
        }
        check.due("FULL leaves what may be undone", x.count(8), 1);
    }

    private static void of() {
        check.promise(5);
        VillageBall x = Check.ofText("90,90,90,90;g9@3,l2@0,l3@0,p9@1");
        x.go(1, 0);
        x.steps(1);
        check.dueAll("of 0", Check.ofThing(x, 0), 4, 9, 3, NONE, 0);
        check.dueAll("of 1", Check.ofThing(x, 1), 1, 2, NONE, 0, 0);
        check.dueAll("of 2", Check.ofThing(x, 2), 1, 3, NONE, 1, 0);
        check.dueAll("of 3", Check.ofThing(x, 3), 0, 9, 1, NONE, 0);
        x.go(1, 0);
        check.dueAll("of 1, back", Check.ofThing(x, 1), 1, 2, NONE, NONE, 1);
        check.dueAll("of 2, back", Check.ofThing(x, 2), 1, 3, NONE, NONE, 1);
        check.due("thing -1", x.of(-1, 0), BAD);
        check.due("thing 4", x.of(4, 0), BAD);
        check.due("thing 8", x.of(8, 0), BAD);
        check.due("what -1", x.of(0, -1), BAD);
        check.due("what 5", x.of(0, 5), BAD);
    }

    private static void type() {
        check.promise(6);
        VillageBall x = new VillageBall();
        int[] wrong = {31, 127, 0, -1, 49 + 256, 49 + 65536, Integer.MIN_VALUE, Integer.MAX_VALUE};
        for (int w : wrong) {
            check.due("no letter " + w, x.type(w), BAD);
        }
        check.due("the first letter there is", x.type(32), 1);
        check.due("the last letter there is", x.type(126), 2);
        for (int n = 3; n <= 130; n++) {
            check.due("letter " + n, x.type(32), n);
        }
        check.due("letter 131", x.type(32), FULL);
        check.due("BAD comes ahead of FULL", x.type(31), BAD);
        check.due("nothing more was typed", x.village(), -20 - 1);
        for (int n = 1; n <= 130; n++) {
            check.due("letter " + n, x.type(32), n);
        }
        check.due("the end of a full tape", x.village(), -20 - 130);
    }

    private static void villageReplacesAll() {
        check.promise(7);
        VillageBall x = Check.ofText("99,99,99,99,99;l1@0,l2@1,p3@4");
        x.seed(77);
        x.go(9, 30);
        x.steps(1);
        check.due("a village", Check.read(x, " 1 2 ,34, 56,7 8 ; p0 @ 03 ,l1@1 ,s2@02, w3@3,g 4@0 "), 4);
        check.dueAll("count", Check.counts(x), 4, 5, 0, 1, 0, 1, 0, 20, 0);
        for (int c = 0; c < 4; c++) {
            check.due("drop", x.at(c, 0), 2 * c + 1);
            check.due("snow", x.at(c, 1), 2 * c + 2);
        }
        int[] cells = {3, 1, 2, 3, 0};
        for (int t = 0; t < 5; t++) {
            check.dueAll("of " + t, Check.ofThing(x, t), t, t, cells[t], NONE, 0);
        }
        check.due("no things of old", x.of(5, 0), BAD);
        check.due("nothing to be undone", x.undo(), NONE);
        check.due("the draw stays", x.seed(1), 77);
        check.due("the tape is empty", x.type('1'), 1);
        check.due("no cells of old", x.at(4, 0), BAD);
        check.due("without things", Check.read(x, "0,00,00,00"), 4);
        check.due("no things", x.count(1), 0);
    }

    private static void dueOfText(String text, int want) {
        check.due("\"" + text + "\"", Check.read(new VillageBall(), text), want);
    }

    private static void fault(String text, int place) {
        dueOfText(text, -20 - place);
    }

    private static void villageFaults() {
        check.promise(7);
        fault("", 0);
        fault("   ", 3);
        fault("x", 0);
        fault("  x", 2);
        fault(",", 0);
        fault("1", 1);
        fault("1 ", 2);
        fault("1 x", 2);
        fault("1,", 1);
        fault("11x", 2);
        fault("11;", 2);
        fault("11  ;", 4);
        fault("111", 2);
        fault("11,", 3);
        fault("11,,", 3);
        fault("11,11,11", 8);
        fault("11,11,11;p1@1", 8);
        fault("11,11,11,", 9);
        dueOfText("11,11,11,11", 4);
        dueOfText("  11,11,11,11  ", 4);
        fault("11,11,11,11x", 11);
        fault("11,11,11,111", 11);
        fault("11,11,11,11 1", 12);
        fault("11,11,11,11,", 12);
        fault("11,11,11,11,;", 12);
        fault("11,11,11,11;", 12);
        fault("11,11,11,11; ", 13);
        fault("11,11,11,11;;", 12);
        fault("11,11,11,11;P1@1", 12);
        fault("11,11,11,11;a1@1", 12);
        fault("11,11,11,11;11", 12);
        fault("11,11,11,11;p", 13);
        fault("11,11,11,11;p@1", 13);
        fault("11,11,11,11;p11@1", 14);
        fault("11,11,11,11;p1", 14);
        fault("11,11,11,11;p1 1", 15);
        fault("11,11,11,11;p1@", 15);
        fault("11,11,11,11;p1@ ", 16);
        fault("11,11,11,11;p1@x", 15);
        fault("11,11,11,11;p1@-1", 15);
        dueOfText("11,11,11,11;p1@3", 4);
        dueOfText("11,11,11,11;p1@03", 4);
        fault("11,11,11,11;p1@4", 15);
        fault("11,11,11,11;p1@ 4x", 16);
        fault("11,11,11,11;p1@04", 15);
        fault("11,11,11,11;p1@10", 15);
        fault("11,11,11,11;p1@123", 15);
        fault("11,11,11,11;p1@003", 17);
        fault("11,11,11,11;p1@0 3", 17);
        fault("11,11,11,11;p1@3;", 16);
        fault("11,11,11,11;p1@3,", 17);
        fault("11,11,11,11;p1@3 ,x", 18);
        fault("11,11,11,11;p1@3,11", 17);
        dueOfText(Check.cells("12", 23), 23);
        dueOfText(Check.cells("12", 24), 24);
        dueOfText(Check.cells("12", 24) + ";g9@23", 24);
        fault(Check.cells("12", 24) + ";g9@24", 75);
        fault(Check.cells("12", 24) + ";g9@2 3", 77);
        fault(Check.cells("12", 24) + ";g9@123", 75 + 2);
        fault(Check.cells("12", 25), 71);
        fault(Check.cells("12", 24) + ",", 71);
        String four = Check.cells("12", 4) + ";";
        dueOfText(four + Check.cells("w1@2", 7), 4);
        dueOfText(four + Check.cells("w1@2", 8), 4);
        fault(four + Check.cells("w1@2", 9), 12 + 39);
        fault(four + Check.cells("w1@2", 8) + " ,", 12 + 40);
    }

    private static void faultLeavesAllElse() {
        check.promise(7);
        VillageBall x = Check.ofText("50,52,50,50,50;l1@0,p9@1");
        x.seed(5);
        x.go(2, 3);
        x.steps(1);
        check.due("a late fault", Check.read(x, "11,22,33,44;w1@2,g2@9"), -20 - 20);
        check.dueAll("count", Check.counts(x), 5, 2, 1, 3, 8, 0, 1, 2, 2);
        check.dueAll("of 0", Check.ofThing(x, 0), 1, 1, NONE, 0, 0);
        check.dueAll("of 1", Check.ofThing(x, 1), 0, 9, 1, NONE, 0);
        check.due("drop of 0", x.at(0, 0), 5);
        check.due("snow of 1", x.at(1, 1), 2);
        check.due("the tape is empty", x.type('1'), 1);
        check.due("undo", x.undo(), 1);
        check.due("the draw", x.seed(0), 5);
    }

    private static void count() {
        check.promise(8);
        VillageBall x = Check.ofText("51,42,53,04,05;l1@0,p9@1,l3@1");
        x.go(2, 1);
        check.dueAll("let go", Check.counts(x), 5, 3, 0, 2, 1, 0, 0, 15, 1);
        x.steps(1);
        check.dueAll("after a step", Check.counts(x), 5, 3, 1, 4, 6, 0, 1, 14, 2);
        x.steps(1);
        check.dueAll("after two", Check.counts(x), 5, 3, 2, 9, 1, 0, 5, 12, 3);
        x.steps(24);
        check.dueAll("at the bottom", Check.counts(x), 5, 3, 5, 21, 4, 1, 5, 0, 6);
        check.due("what -1", x.count(-1), BAD);
        check.due("what 9", x.count(9), BAD);
    }
}
