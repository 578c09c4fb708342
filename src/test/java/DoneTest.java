/** Promises 9 to 15: letting go, steps, days that melt, snow that falls, undoing, the draw. */
public final class DoneTest {
    private static final int BAD = -1, NOT = -2, NONE = -4;
    private static final Check check = new Check("DoneTest");

    public static void main(String[] args) {
        go();
        stepSpeeds();
        stepMeetsKinds();
        stepMeetsInOrder();
        steps();
        melt();
        meltGivesBackLastFirst();
        snow();
        drift();
        undo();
        undoWhateverWasTold();
        undoBringsBackTheOrder();
        undoKnowsEight();
        seed();
        check.end();
    }

    private static void go() {
        check.promise(9);
        VillageBall x = Check.ofText("90,90,90,90;l1@0,l2@0,p3@3");
        int[][] wrong = {{0, 0}, {100, 0}, {-1, 0}, {1, -1}, {1, 100}, {Integer.MAX_VALUE, 0}, {1, Integer.MIN_VALUE}};
        for (int[] w : wrong) {
            check.due("wrong go", x.go(w[0], w[1]), BAD);
        }
        check.dueAll("nothing is changed", Check.counts(x), 4, 3, 0, 1, 0, 1, 0, 0, 0);
        check.due("go", x.go(99, 99), 0);
        check.dueAll("let go", Check.counts(x), 4, 3, 0, 99, 99, 0, 0, 0, 1);
        check.due("go again", x.go(1, 0), 0);
        check.dueAll("slow, but not at rest", Check.counts(x), 4, 3, 0, 1, 0, 0, 0, 0, 2);
        x.steps(1);
        check.due("two are in it", x.count(6), 3);
        check.due("they are back by it", x.go(7, 5), 2);
        check.dueAll("from the top", Check.counts(x), 4, 3, 0, 7, 5, 0, 0, 0, 4);
        check.due("0 is back", x.of(0, 4), 1);
        check.due("1 is back", x.of(1, 4), 1);
        check.due("2 lies", x.of(2, 2), 3);
        check.due("back is for good", x.go(7, 5), 0);
        x.steps(1);
        check.due("none is met", x.count(6), 0);
    }

    /** One step of a ball from a first cell of that drop and snow 0. */
    private static void dueStep(int drop, int great, int fast, int wantFast, int wantPlace) {
        VillageBall x = Check.ofText(drop + "0," + Check.cells("00", 9));
        x.go(great, fast);
        check.due("a step", x.steps(1), 1);
        String told = "drop " + drop + " great " + great + " fast " + fast;
        check.due(told + ": fast", x.count(4), wantFast);
        check.due(told + ": place", x.count(2), wantPlace);
        check.due(told + ": rests", x.count(5), wantFast == 0 ? 1 : 0);
        check.due(told + ": great", x.count(3), great);
    }

    private static void stepSpeeds() {
        check.promise(10);
        dueStep(0, 1, 0, 0, 0);
        dueStep(1, 1, 0, 1, 1);
        dueStep(3, 9, 4, 7, 1);
        dueStep(3, 10, 4, 6, 1);
        dueStep(3, 19, 4, 6, 1);
        dueStep(3, 20, 4, 5, 1);
        dueStep(3, 70, 4, 0, 0);
        dueStep(3, 99, 4, 0, 0);
        dueStep(0, 1, 19, 19, 1);
        dueStep(0, 1, 20, 20, 2);
        dueStep(1, 1, 19, 20, 2);
        dueStep(0, 1, 39, 39, 2);
        dueStep(0, 1, 40, 40, 3);
        dueStep(0, 1, 60, 60, 4);
        dueStep(0, 1, 99, 99, 5);
        dueStep(9, 1, 95, 99, 5);
        // The bounds hold behind the drop and the tenth together, not between them.
        dueStep(9, 99, 95, 95, 5);
        dueStep(9, 99, 0, 0, 0);
        VillageBall x = Check.ofText("07,00,00,00");
        x.go(99, 30);
        x.steps(1);
        check.due("the tenth is of how great it was ahead of the snow", x.count(4), 21);
        check.due("greater by snow", x.count(3), 106);
        check.due("the snow is gone", x.at(0, 1), 0);
    }

    /** One step of a ball that meets a thing heavy by 5 at the first cell. */
    private static void dueMeeting(char kind, int great, int fast, int wantGreat, int wantFast, boolean taken) {
        VillageBall x = Check.ofText("00,00,00,00;" + kind + "5@0");
        x.go(great, fast);
        x.steps(1);
        String told = kind + " great " + great + " fast " + fast;
        check.due(told + ": great", x.count(3), wantGreat);
        check.due(told + ": fast", x.count(4), wantFast);
        check.due(told + ": place", x.count(2), wantFast == 0 ? 0 : 1);
        check.due(told + ": in the ball", x.count(6), taken ? 1 : 0);
        check.dueAll(told, Check.ofThing(x, 0), "plswg".indexOf(kind), 5, taken ? NONE : 0, taken ? 0 : NONE, 0);
    }

    private static void stepMeetsKinds() {
        check.promise(10);
        dueMeeting('p', 5, 8, 10, 8, true);
        dueMeeting('p', 6, 15, 11, 15, true);
        dueMeeting('p', 4, 8, 4, 3, false);
        dueMeeting('p', 4, 15, 4, 10, false);
        dueMeeting('p', 4, 5, 4, 0, false);
        dueMeeting('p', 4, 2, 4, 0, false);
        dueMeeting('l', 1, 8, 6, 8, true);
        dueMeeting('l', 5, 19, 10, 19, true);
        dueMeeting('s', 5, 14, 10, 14, true);
        dueMeeting('s', 5, 15, 5, 15, false);
        dueMeeting('s', 4, 14, 4, 9, false);
        dueMeeting('s', 4, 15, 4, 15, false);
        dueMeeting('s', 4, 4, 4, 0, false);
        dueMeeting('w', 9, 8, 4, 8, true);
        dueMeeting('w', 7, 19, 2, 19, true);
        dueMeeting('w', 6, 8, 1, 8, true);
        dueMeeting('w', 5, 8, 1, 8, true);
        dueMeeting('w', 1, 8, 1, 8, true);
        dueMeeting('g', 5, 14, 15, 14, true);
        dueMeeting('g', 5, 15, 5, 15, false);
        dueMeeting('g', 4, 14, 4, 9, false);
        dueMeeting('g', 4, 15, 4, 15, false);
    }

    private static void stepMeetsInOrder() {
        check.promise(10);
        VillageBall x = Check.ofText("51,00,00,00;p3@0,l2@0,p3@0,p3@1");
        x.go(1, 1);
        x.steps(1);
        check.due("fast: 0 is too heavy then, 1 makes it great enough for 2", x.count(4), 3);
        check.due("great", x.count(3), 7);
        check.due("in it", x.count(6), 6);
        check.due("1 is the first", x.of(1, 3), 0);
        check.due("2 is the second", x.of(2, 3), 1);
        x = Check.ofText("00,00,00,00;p2@0,s1@0");
        x.go(1, 16);
        x.steps(1);
        check.due("slowed by 0, it takes the slick one", x.count(6), 2);
        x = Check.ofText("00,00,00,00;s1@0,p2@0");
        x.go(1, 16);
        x.steps(1);
        check.due("the slick one is met first", x.count(6), 0);
        check.due("then the plain one", x.count(4), 14);
        x = Check.ofText("05,00,00,00;p6@0");
        x.go(1, 3);
        x.steps(1);
        check.due("snow comes ahead of things", x.count(6), 1);
    }

    private static void steps() {
        check.promise(10);
        VillageBall x = new VillageBall();
        check.due("BAD ahead of NOT", x.steps(0), BAD);
        check.due("BAD ahead of NOT", x.steps(25), BAD);
        check.due("it rests", x.steps(1), NOT);
        check.due("nothing was done", x.count(8), 0);
        x.go(1, 0);
        check.due("-1", x.steps(-1), BAD);
        check.due("25", x.steps(25), BAD);
        check.due("3", x.steps(3), 3);
        check.due("each may be undone", x.count(8), 4);
        check.due("place", x.count(2), 3);
        check.due("fast", x.count(4), 9);
        check.due("great", x.count(3), 7);
        check.due("till it rests", x.steps(24), 7);
        check.due("the bottom", x.count(2), 12);
        check.due("it is as fast as it was", x.count(4), 25);
        check.due("rests", x.count(5), 1);
        check.due("snow", x.count(7), 4);
        check.due("it rests", x.steps(24), NOT);
        x = Check.ofText(Check.cells("00", 24));
        x.go(1, 1);
        check.due("24 steps", x.steps(24), 24);
        check.due("the bottom", x.count(2), 24);
        x = Check.ofText("90,00,00,00;p9@2");
        x.go(1, 0);
        check.due("a thing stops it", x.steps(24), 3);
        check.due("where", x.count(2), 2);
        check.due("rests", x.count(5), 1);
    }

    private static void melt() {
        check.promise(11);
        VillageBall x = Check.ofText("00,00,00,00");
        check.due("0", x.melt(0), BAD);
        check.due("25", x.melt(25), BAD);
        x.go(45, 0);
        check.due("BAD ahead of NOT", x.melt(0), BAD);
        check.due("it does not rest", x.melt(1), NOT);
        x.steps(1);
        int known = x.count(8);
        check.due("a day", x.melt(1), 40);
        check.due("one is known", x.count(8), known + 1);
        check.due("two days", x.melt(2), 31);
        check.due("each is known", x.count(8), known + 3);
        check.due("it is kept", x.count(3), 31);
        check.due("24 days", x.melt(24), 1);
        check.due("1 at least", x.melt(1), 1);
        check.due("rests", x.count(5), 1);
        check.due("place", x.count(2), 0);
        x.go(9, 0);
        x.steps(1);
        check.due("a tenth of 9 is 0", x.melt(1), 8);
        x.go(2, 0);
        x.steps(1);
        check.due("2", x.melt(1), 1);
    }

    private static void meltGivesBackLastFirst() {
        check.promise(11);
        VillageBall x = Check.ofText("90,90,00,00;g3@0,w4@1,l7@1,p1@3");
        x.go(30, 3);
        x.steps(24);
        check.due("great", x.count(3), 40);
        check.due("in it", x.count(6), 15);
        check.due("3 back: 1 and 1", x.melt(1), 38);
        check.dueAll("of 3", Check.ofThing(x, 3), 0, 1, NONE, NONE, 1);
        check.dueAll("of 2", Check.ofThing(x, 2), 1, 7, NONE, 2, 0);
        check.due("2 back: 7 and 1", x.melt(1), 30);
        check.due("in it", x.count(6), 3);
        check.due("1 back: 4 and 1; 0 back: 3 and 1", x.melt(2), 21);
        check.due("in it", x.count(6), 0);
        check.due("none in it", x.melt(1), 18);
        x = Check.ofText("90,00,00,00;w9@0");
        x.go(5, 0);
        x.steps(24);
        check.due("1 at least", x.melt(1), 1);
        check.due("back", x.of(0, 4), 1);
    }

    private static void snow() {
        check.promise(12);
        VillageBall x = Check.ofText("00,07,08,09");
        int[] wrong = {0, 10, -1, Integer.MIN_VALUE, Integer.MAX_VALUE};
        for (int w : wrong) {
            check.due("wrong snow", x.snow(w), BAD);
        }
        check.due("nothing fell", x.count(7), 24);
        check.due("nothing is known", x.count(8), 0);
        check.due("by 2", x.snow(2), 29);
        check.dueAll("snow", Check.snows(x), 2, 9, 9, 9);
        check.due("it is known", x.count(8), 1);
        check.due("by 9", x.snow(9), 36);
        check.due("all the same it is known", x.snow(9), 36);
        check.due("three", x.count(8), 3);
        check.due("undo", x.undo(), 2);
        check.due("undo", x.undo(), 1);
        check.dueAll("snow", Check.snows(x), 2, 9, 9, 9);
        x.go(1, 1);
        check.due("while it rolls", x.snow(1), 30);
        check.due("the draw stays", x.seed(1), 1);
    }

    private static void drift() {
        check.promise(13);
        VillageBall x = new VillageBall();
        int[] wrong = {0, 41, -1, Integer.MAX_VALUE};
        for (int w : wrong) {
            check.due("wrong drift", x.drift(w), BAD);
        }
        check.due("nothing is known", x.count(8), 0);
        // From 1 on the draws by 65536 are 16838, 5758, 10113, 17515, 31051, 5627.
        check.due("one", x.drift(1), 25);
        check.due("at 2", x.at(2, 1), 3);
        check.due("five more", x.drift(5), 30);
        check.dueAll("snow", Check.snows(x), 2, 2, 3, 2, 2, 2, 2, 4, 2, 3, 3, 3);
        check.due("each is one to be undone", x.count(8), 2);
        int draw = x.seed(1);
        check.due("the draw by 65536", draw / 65536, 5627);
        x.seed(draw);
        check.due("undo", x.undo(), 1);
        check.due("snow", x.count(7), 25);
        check.due("the draw as ahead of it", x.seed(1), 1103527590);
        x = Check.ofText("00,00,09,00");
        check.due("on 2 of 4, which is full", x.drift(1), 9);
        check.due("on 2 of 4 again, then 1", x.drift(2), 10);
        check.due("at 1", x.at(1, 1), 1);
        check.due("40", x.drift(40), x.count(7));
        x = Check.ofText(Check.cells("00", 24));
        // The draw behind this seed is 65536 times 7, behind the next one 1 less than 65536 times 24.
        x.seed(1815783043);
        x.drift(1);
        check.due("on 7", x.at(7, 1), 1);
        check.due("the draw", x.seed(523615006), 65536 * 7);
        x.drift(1);
        check.due("on 23", x.at(23, 1), 1);
        check.due("the draw", x.seed(0), 65536 * 24 - 1);
        x = new VillageBall();
        x.seed(Integer.MAX_VALUE);
        x.drift(1);
        check.due("31 bits", x.seed(0), (2147483647L * 1103515245L + 12345L) & 0x7fffffffL);
    }

    private static void undo() {
        check.promise(14);
        VillageBall x = Check.ofText("91,92,03,00;l4@0,p9@1");
        check.due("none", x.undo(), NONE);
        x.go(2, 5);
        x.steps(1);
        x.steps(24);
        x.melt(1);
        x.snow(1);
        x.drift(3);
        check.due("thing 0 is back by it", x.go(9, 9), 1);
        check.dueAll("let go again", Check.counts(x), 4, 2, 0, 9, 9, 0, 0, 10, 8);
        int[][] ahead = {
            {4, 2, 4, 8, 22, 1, 1, 10, 7}, {4, 2, 4, 8, 22, 1, 1, 7, 6}, {4, 2, 4, 8, 22, 1, 1, 3, 5},
            {4, 2, 4, 18, 22, 1, 3, 3, 4}, {4, 2, 3, 18, 23, 0, 3, 3, 3}, {4, 2, 1, 7, 14, 0, 1, 5, 2},
            {4, 2, 0, 2, 5, 0, 0, 6, 1}, {4, 2, 0, 1, 0, 1, 0, 6, 0}};
        for (int k = 0; k < ahead.length; k++) {
            check.due("undo", x.undo(), 7 - k);
            check.dueAll("undone", Check.counts(x), ahead[k]);
        }
        check.due("thing 0 lies", x.of(0, 2), 0);
        check.due("thing 1 lies", x.of(1, 2), 1);
        check.dueAll("snow", Check.snows(x), 1, 2, 3, 0);
        check.due("none", x.undo(), NONE);
    }

    private static void undoWhateverWasTold() {
        check.promise(14);
        VillageBall x = Check.ofText("91,92,93,94;l4@0,l2@0,p9@3");
        x.go(1, 0);
        x.steps(1);
        x.go(3, 3);
        x.cell(2, 1, 9);
        x.cell(2, 0, 1);
        x.seed(99);
        check.due("undo letting go", x.undo(), 2);
        check.due("snow as it was", x.at(2, 1), 3);
        check.due("drop as told", x.at(2, 0), 1);
        check.due("in it", x.count(6), 3);
        check.due("0 is the first", x.of(0, 3), 0);
        check.due("1 is the second", x.of(1, 3), 1);
        check.due("0 is not back", x.of(0, 4), 0);
        check.due("the draw as it was", x.seed(5), 1);
        check.due("undo a step", x.undo(), 1);
        check.due("0 lies", x.of(0, 2), 0);
        check.due("1 lies", x.of(1, 2), 0);
        check.due("snow lies", x.at(0, 1), 1);
        check.due("the draw as it was", x.seed(5), 1);
    }

    private static void undoBringsBackTheOrder() {
        check.promise(14);
        VillageBall x = Check.ofText("10,10,00,00;l1@1,l2@0,l3@2,l4@3");
        x.go(1, 0);
        x.steps(2);
        x.go(1, 99);
        x.undo();
        x.go(1, 5);
        x.steps(24);
        check.due("others are in it", x.of(2, 3), 0);
        check.due("others are in it", x.of(3, 3), 1);
        while (x.count(6) != 3) {
            x.undo();
        }
        check.due("1 was the first", x.of(1, 3), 0);
        check.due("0 was the second", x.of(0, 3), 1);
        check.due("2 lies", x.of(2, 2), 2);
    }

    private static void undoKnowsEight() {
        check.promise(14);
        VillageBall x = Check.ofText(Check.cells("30", 24));
        x.go(1, 0);
        x.steps(5);
        check.due("six", x.count(8), 6);
        x.steps(2);
        check.due("eight", x.count(8), 8);
        x.steps(1);
        check.due("eight still", x.count(8), 8);
        check.due("eight behind", x.count(2), 10);
        int[] places = {8, 6, 5, 4, 3, 2, 1, 0};
        for (int k = 0; k < 8; k++) {
            check.due("undo", x.undo(), 7 - k);
            check.due("place", x.count(2), places[k]);
        }
        check.due("letting go is lost", x.count(5), 0);
        check.due("none", x.undo(), NONE);
        check.due("nothing is changed", x.count(2), 0);
        x.snow(1);
        check.due("undo goes on", x.undo(), 0);
    }

    private static void seed() {
        check.promise(15);
        VillageBall x = new VillageBall();
        check.due("0", x.seed(0), 1);
        check.due("below 0", x.seed(-1), BAD);
        check.due("below 0", x.seed(Integer.MIN_VALUE), BAD);
        check.due("the most", x.seed(Integer.MAX_VALUE), 0);
        check.due("back", x.seed(0), Integer.MAX_VALUE);
        check.due("nothing to be undone", x.count(8), 0);
        x.drift(1);
        check.due("12345 from 0", x.seed(1), 12345);
        check.due("on the first", x.at(0, 1), 3);
    }
}
