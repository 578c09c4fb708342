/** Promises 16 to 23: what is foretold, images. */
public final class ForetoldTest {
    private static final int BAD = -1, NOT = -2, NONE = -4;
    private static final Check check = new Check("ForetoldTest");

    public static void main(String[] args) {
        ahead();
        order();
        push();
        bank();
        lay();
        spare();
        imageAndRestore();
        imageKeepsThePast();
        check.end();
    }

    private static void ahead() {
        check.promise(16);
        VillageBall x = Check.ofText("91,92,03,00;l4@0,p9@1,l1@2");
        check.dueAll("it rests", Check.ahead(x), 0, 1, 0, 0, 0);
        x.go(2, 5);
        check.dueAll("let go", Check.ahead(x), 4, 18, 3, 3, 23);
        check.dueAll("nothing is changed", Check.counts(x), 4, 3, 0, 2, 5, 0, 0, 6, 1);
        check.due("thing 0 lies on", x.of(0, 2), 0);
        x.steps(1);
        check.dueAll("behind a step", Check.ahead(x), 4, 18, 3, 2, 23);
        x.steps(24);
        check.dueAll("at the bottom", Check.ahead(x), 4, 18, 3, 0, 22);
        check.due("what -1", x.ahead(-1), BAD);
        check.due("what 5", x.ahead(5), BAD);
        x = Check.ofText("00,00,00,00;p9@0");
        x.go(1, 9);
        check.dueAll("as fast as now", Check.ahead(x), 0, 1, 0, 1, 9);
        x = Check.ofText("90,00,00,00;p9@0");
        x.go(1, 5);
        check.dueAll("within a step does not count", Check.ahead(x), 4, 1, 0, 4, 5);
        x = Check.ofText(Check.cells("00", 24));
        x.go(1, 1);
        check.dueAll("the longest way", Check.ahead(x), 24, 1, 0, 24, 1);
    }

    private static void order() {
        check.promise(17);
        VillageBall x = Check.ofText("90,90,00,00;l1@1,l2@0,p9@1,l1@0");
        check.due("none at rest", x.order(0), NONE);
        check.due("below 0", x.order(-1), BAD);
        check.due("below 0", x.order(Integer.MIN_VALUE), BAD);
        x.go(1, 0);
        int[] want = {1, 3, 0, NONE, NONE};
        for (int k = 0; k < want.length; k++) {
            check.due("order " + k, x.order(k), want[k]);
        }
        check.due("far on", x.order(Integer.MAX_VALUE), NONE);
        check.due("8", x.order(8), NONE);
        check.due("nothing is changed", x.count(6), 0);
        x.steps(1);
        for (int k = 0; k < want.length; k++) {
            check.due("order behind a step " + k, x.order(k), want[k]);
        }
        x.steps(24);
        x.melt(1);
        check.due("behind a day", x.order(1), 3);
        check.due("behind a day", x.order(2), NONE);
        x = Check.ofText("90,90,00,00;l1@3,l2@1,l3@0");
        x.go(1, 0);
        x.steps(2);
        check.due("asked for the first time when some are in it", x.order(0), 2);
        check.due("then", x.order(1), 1);
        x = Check.ofText(Check.cells("90", 4) + ";" + Check.cells("l0@0", 8));
        x.go(1, 0);
        check.due("the eighth", x.order(7), 7);
        check.due("no ninth", x.order(8), NONE);
    }

    private static void push() {
        check.promise(18);
        VillageBall x = Check.ofText("00,00,00,00;p9@1");
        check.due("it rests", x.push(), NOT);
        x.go(1, 0);
        check.due("10 are wanted", x.push(), 10);
        check.due("nothing is changed", x.count(4), 0);
        x.go(1, 4);
        check.due("6 more", x.push(), 6);
        x.go(1, 10);
        check.due("none more", x.push(), 0);
        x.go(1, 99);
        check.due("none more", x.push(), 0);
        x.steps(24);
        check.due("it rests at the bottom", x.push(), NOT);
        x = Check.ofText(Check.cells("09", 24));
        x.go(99, 0);
        check.due("it is too great", x.push(), NONE);
        x.go(99, 99);
        check.due("it is too great", x.push(), NONE);
        x.go(1, 0);
        int more = x.push();
        x.go(1, more);
        check.due("so far it must be pushed", x.ahead(0), 24);
        x.go(1, more - 1);
        check.due("no less will do", x.ahead(0) < 24 ? 1 : 0, 1);
        x = Check.ofText("00,00,00,00,09,00;p9@1,p9@2,p9@3,p9@4,p9@5");
        x.go(1, 0);
        check.due("by 20 it leaps over a thing", x.push(), 20);
    }

    private static void bank() {
        check.promise(19);
        VillageBall x = Check.ofText("90,90,90,90");
        check.due("what -1", x.bank(-1), BAD);
        check.due("what 2", x.bank(2), BAD);
        check.due("at rest: the first of like ones", x.bank(0), 0);
        check.due("at rest: where it is", x.bank(1), 0);
        x.go(1, 20);
        check.due("it stops at once", x.bank(0), 0);
        check.due("where", x.bank(1), 0);
        check.due("nothing is changed", x.count(4), 20);
        check.due("no drop is changed", x.at(0, 0), 9);
        x.go(1, 21);
        check.due("no bank stops it: the first", x.bank(0), 0);
        check.due("the bottom", x.bank(1), 4);
        x.steps(24);
        check.due("at the bottom", x.bank(0), 0);
        check.due("at the bottom", x.bank(1), 4);
        x = Check.ofText("50,50,00,00,00,00");
        x.go(1, 0);
        x.steps(2);
        check.due("where it is now", x.bank(0), 2);
        check.due("it rests there", x.bank(1), 2);
        x = Check.ofText("00,00,00,00,00,00;p4@1");
        x.go(1, 24);
        check.due("a bank at the top lets it meet the thing", x.bank(0), 0);
        check.due("which stops it", x.bank(1), 1);
        x = Check.ofText("00,00,00,00,00,00,00;p5@2");
        x.go(1, 25);
        check.due("two cells stop it alike: the first", x.bank(0), 0);
        check.due("with the thing", x.bank(1), 2);
        x = Check.ofText("00,00,90,90,90,90;p9@1");
        x.go(1, 10);
        x.steps(1);
        x.cell(1, 0, 9);
        check.due("at the next cell", x.bank(0), 1);
        check.due("there", x.bank(1), 1);
        x = Check.ofText("00,90,00,00,00;p9@2");
        x.go(1, 29);
        check.due("behind the leap", x.bank(0), 2);
        check.due("with the thing", x.bank(1), 2);
        x = Check.ofText("00,09,09,09,00,00");
        x.go(50, 26);
        check.due("it is heavy behind the bank", x.bank(1), 1);
        check.due("there", x.bank(0), 0);
    }

    private static void lay() {
        check.promise(20);
        VillageBall x = Check.ofText("01,02,03,00;p5@0,l1@3");
        check.due("at rest: the first", x.lay(0, 0), 0);
        check.due("at rest: as great as it is", x.lay(0, 1), 1);
        x.go(1, 9);
        check.due("great without", x.ahead(1), 8);
        check.due("where it is great enough", x.lay(0, 0), 2);
        check.due("how great", x.lay(0, 1), 13);
        check.due("it lies where it lay", x.of(0, 2), 0);
        check.due("1 had better lie early, of like ones the first", x.lay(1, 0), 0);
        check.due("how great", x.lay(1, 1), 8);
        int[][] wrong = {{-1, 0}, {2, 0}, {8, 0}, {0, -1}, {0, 2}};
        for (int[] w : wrong) {
            check.due("wrong lay", x.lay(w[0], w[1]), BAD);
        }
        x.steps(24);
        check.due("in the ball", x.lay(1, 0), NOT);
        check.due("BAD ahead of NOT", x.lay(1, 2), BAD);
        check.due("that one lies", x.lay(0, 1), 8);
        x.melt(1);
        check.due("back", x.lay(1, 0), NOT);
        x = Check.ofText("00,00,00,00,00,00;w3@0");
        x.go(9, 29);
        check.due("a warm one where it is leapt over", x.lay(0, 0), 1);
        check.due("how great", x.lay(0, 1), 9);
        x = Check.ofText("00,00,00,00;w3@2");
        x.go(9, 5);
        check.due("it must lie at a cell there is", x.lay(0, 0), 0);
        check.due("how great", x.lay(0, 1), 6);
        x = Check.ofText("30,30,30,30,30,30;g4@5,l2@1");
        x.go(3, 3);
        check.due("a grudge behind what makes it great enough", x.lay(0, 0), 1 + 1);
        check.due("twice by 4", x.lay(0, 1), 13);
    }

    private static void dueSpare(VillageBall x, int thing, int many, int which) {
        check.due("spare " + thing + ": how many", x.spare(thing, 0), many);
        check.due("spare " + thing + ": which", x.spare(thing, 1), which);
    }

    private static void spare() {
        check.promise(21);
        VillageBall x = Check.ofText("00,00,00,00;l4@0,p5@1");
        dueSpare(x, 0, 0, 0);
        x.go(1, 9);
        dueSpare(x, 0, NONE, NONE);
        dueSpare(x, 1, 1, 1);
        check.due("nothing is changed", x.at(0, 2), 1);
        int[][] wrong = {{-1, 0}, {2, 0}, {8, 1}, {0, -1}, {0, 2}};
        for (int[] w : wrong) {
            check.due("wrong spare", x.spare(w[0], w[1]), BAD);
        }
        x.steps(1);
        dueSpare(x, 0, NONE, NONE);
        dueSpare(x, 1, NONE, NONE);
        x.go(1, 0);
        dueSpare(x, 0, 0, 0);
        dueSpare(x, 1, 0, 0);
        x = Check.ofText("00,00,00,00;l2@0,l2@0,p5@1");
        x.go(1, 9);
        dueSpare(x, 2, 1, 1);
        x = Check.ofText("00,00,00,00;p5@1,l4@0,l4@0");
        x.go(1, 9);
        dueSpare(x, 0, 2, 6);
        x = Check.ofText("00,00,00,00;l1@0,l1@0,l2@0,p4@1");
        x.go(1, 9);
        dueSpare(x, 3, 1, 4);
        x = Check.ofText("00,00,00,00;l1@0,l1@0,l1@0,l1@0,l1@0,l1@0,l1@0,p2@1");
        x.go(1, 9);
        dueSpare(x, 7, 7, 127);
        x = Check.ofText("00,00,00,00,00,00;l1@2,p9@0");
        x.go(1, 25);
        check.due("slowed, it meets 0", x.ahead(2), 1);
        dueSpare(x, 0, NONE, NONE);
        x = Check.ofText("00,00,00,00,00,00;l1@1,p9@0");
        x.go(1, 25);
        check.due("slowed, it meets 0", x.ahead(2), 1);
        dueSpare(x, 0, 1, 2);
    }

    private static void imageAndRestore() {
        check.promise(22);
        VillageBall x = Check.ofText("51,52,53,54,50;l1@0,p9@1");
        x.seed(42);
        x.go(2, 3);
        x.steps(1);
        x.sheet(0, 2, 3);
        x.type('1');
        check.due("image", x.image(), 1);
        check.due("nothing is changed", x.count(8), 2);
        x.cell(4, 0, 9);
        x.steps(1);
        x.thing(4, 4, 4);
        x.drift(3);
        x.drop(0);
        x.sheet(1, 1, 7);
        x.type('2');
        check.promise(23);
        check.due("restore", x.restore(), 1);
        check.dueAll("count", Check.counts(x), 5, 2, 1, 4, 8, 0, 1, 9, 2);
        check.due("drop", x.at(4, 0), 5);
        check.dueAll("snow", Check.snows(x), 0, 2, 3, 4, 0);
        check.dueAll("of 0", Check.ofThing(x, 0), 1, 1, NONE, 0, 0);
        check.dueAll("of 1", Check.ofThing(x, 1), 0, 9, 1, NONE, 0);
        check.due("no third thing", x.of(2, 0), BAD);
        check.due("the draw", x.seed(1), 42);
        check.due("a sheet stays dropped", x.drop(0), -11);
        check.due("a sheet stays", x.drop(1), 7);
        check.due("the tape stays", x.type('3'), 3);
        x.village();
        check.due("another village", Check.read(x, "11,11,11,11"), 4);
        check.due("restore again", x.restore(), 1);
        check.dueAll("count", Check.counts(x), 5, 2, 1, 4, 8, 0, 1, 9, 2);
        check.due("the draw again", x.seed(1), 42);
        x.snow(9);
        check.promise(22);
        check.due("a newer image", x.image(), 1);
        x.undo();
        x.restore();
        check.due("the newer one", x.count(7), 45);
        check.promise(23);
        check.due("none", new VillageBall().restore(), NONE);
    }

    private static void imageKeepsThePast() {
        check.promise(23);
        VillageBall x = Check.ofText(Check.cells("30", 24));
        x.go(1, 0);
        x.steps(9);
        x.image();
        x.thing(0, 0, 0);
        x.snow(1);
        x.snow(1);
        x.restore();
        check.due("eight", x.count(8), 8);
        int[] places = {10, 8, 6, 5, 4, 3, 2, 1};
        for (int k = 0; k < 8; k++) {
            check.due("undo", x.undo(), 7 - k);
            check.due("place", x.count(2), places[k]);
            check.due("snow", x.count(7), 0);
        }
        check.due("none", x.undo(), NONE);
        x.restore();
        check.due("the image is as it was", x.count(8), 8);
        check.due("place", x.count(2), 12);
        for (int k = 0; k < 8; k++) {
            x.snow(1);
        }
        x.restore();
        for (int k = 0; k < 8; k++) {
            x.undo();
            check.due("none of the later snow comes back", x.count(7), 0);
        }
        check.due("place", x.count(2), 1);
    }
}
