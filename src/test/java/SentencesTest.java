/** The sentences of the document that name no bound, so that with the tests of the bounds each of its words is tested. */
public final class SentencesTest {
    private static final int NONE = -4, CAST = -12;
    private static final String STORY = "A ball is rolled down from the first of them: at the top of that village a boy lets"
        + " go of a little one, and as it goes it takes up what is lying, snow, a glove, an ill feeling, gets out of hand,"
        + " runs past the church, lies at the bottom and gives all back in spring, the last first; a slope of cells with"
        + " drops and snow, things of kinds by what it takes to be taken up, what they do; step by step, snow that falls,"
        + " by draws, days that melt, undone; where it stops, how great, with what in it, in which order; how hard it must"
        + " be pushed, where a bank stops it soonest, where a thing had better lie, the fewest things to take away so that"
        + " one is missed; how fast it was let go, by where it was seen; villages as texts; images; sheets that may be"
        + " missing.";

    public static void main(String[] args) throws Exception {
        Bounds.run(SentencesTest.class);
    }

    private static VillageBall letGo(String text, int great, int fast) {
        VillageBall x = Check.ofText(text);
        x.go(great, fast);
        return x;
    }

    // ---- the first line

    /** A glove at 1, an ill feeling at 2: great by 2, 5, 12, 13 and fast by 3, 6, 9, 11 behind the steps. */
    private static VillageBall story() {
        return letGo("31,31,31,31;l2@1,g3@2", 1, 0);
    }

    @Says(at = "What it is", text = STORY)
    private static void story_rolledDown() {
        VillageBall x = story();
        Bounds.dueAll("where it stops, how great, with what in it", Check.ahead(x), 4, 13, 3, 4, 11);
        Bounds.dueAll("in which order", new int[] {x.order(0), x.order(1), x.order(2)}, 0, 1, NONE);
        Bounds.due("how hard it must be pushed", x.push(), 0);
        Bounds.dueAll("where a bank stops it soonest", new int[] {x.bank(0), x.bank(1)}, 0, 0);
        // At 0 the ball is great by 2, which is too little for the ill feeling; at 3 it finds it as at 2.
        Bounds.dueAll("where the ill feeling had better lie", new int[] {x.lay(1, 0), x.lay(1, 1)}, 1, 13);
        Bounds.dueAll("so that it is missed", new int[] {x.spare(1, 0), x.spare(1, 1)}, NONE, NONE);
        Bounds.due("step by step", x.steps(24), 4);
        Bounds.dueAll("at the bottom", Check.counts(x), 4, 2, 4, 13, 11, 1, 3, 0, 5);
    }

    @Says(at = "What it is", text = STORY)
    private static void story_givesAllBackInSpringTheLastFirst() {
        VillageBall x = story();
        x.steps(24);
        Bounds.due("the ill feeling: 3 and 1 less", x.melt(1), 9);
        Bounds.dueAll("it is back, the glove is not", new int[] {x.of(1, 4), x.of(0, 4)}, 1, 0);
        Bounds.due("the glove: 2 and 1 less", x.melt(1), 6);
        Bounds.dueAll("all is back", new int[] {x.of(1, 4), x.of(0, 4)}, 1, 1);
        Bounds.due("undone", x.undo(), 6);
        Bounds.dueAll("great, and the glove in it", new int[] {x.count(3), x.count(6)}, 9, 1);
    }

    @Says(at = "What it is", text = STORY)
    private static void story_howFastItWasLetGo() {
        VillageBall x = story();
        Bounds.due("a sheet is missing", x.seen(1, 0, 0, 0, 4, 0), -11);
        x.sheet(0, 0, 4);
        x.film(4, 0, 0, 0);
        // 0 .. 10 come to 3 by 1, 2, 3; with 11 it is fast by 20 at 2 and leaps.
        Bounds.dueAll("by where it was seen", new int[] {x.seen(1, 0, 0, 0, 4, 0), x.seen(1, 0, 0, 0, 4, 1)}, 11, 0);
    }

    // ---- 1 the slope, the ball, things

    @Says(at = "==== 1", text = "THE BALL is at a CELL, or at the BOTTOM (told as how many CELLS there are), is GREAT by 1 .. 999,"
        + " FAST by 0 .. 99, RESTS or not.")
    private static void promise08_ball_atEachStep() {
        VillageBall x = story();
        int[][] dues = {{0, 1, 0, 0}, {1, 2, 3, 0}, {2, 5, 6, 0}, {3, 12, 9, 0}, {4, 13, 11, 1}};
        for (int[] due : dues) {
            Bounds.dueAll("place, great, fast, rests", new int[] {x.count(2), x.count(3), x.count(4), x.count(5)}, due);
            x.steps(1);
        }
    }

    /** Each thing lies, or is in the ball, or is back; sets and places tell the same. */
    private static void dueOneOfThree(String told, VillageBall x, int lie, int in, int back) {
        int lying = 0;
        for (int c = 0; c < x.count(0); c++) {
            lying |= x.at(c, 2);
        }
        Bounds.dueAll(told + ", by sets", new int[] {lying, x.count(6)}, lie, in);
        int[] sets = new int[3];
        for (int t = 0; t < x.count(1); t++) {
            sets[0] |= x.of(t, 2) != NONE ? 1 << t : 0;
            sets[1] |= x.of(t, 3) != NONE ? 1 << t : 0;
            sets[2] |= x.of(t, 4) == 1 ? 1 << t : 0;
        }
        Bounds.dueAll(told + ", by things", sets, lie, in, back);
    }

    @Says(at = "==== 1", text = "THINGS 0 .. 7, as they come, are of a KIND, HEAVY by 0 .. 9, LIE at a CELL, or are IN THE BALL, or"
        + " are BACK (for good).")
    private static void promise05_things_lieOrAreInItOrAreBack() {
        VillageBall x = letGo("00,00,00,00;l1@0,w2@1,p9@1,g1@3", 2, 19);
        dueOneOfThree("let go", x, 15, 0, 0);
        x.steps(1);
        dueOneOfThree("behind a step", x, 14, 1, 0);
        x.steps(1);
        dueOneOfThree("behind two", x, 12, 3, 0);
        // The plain one was too heavy: fast by 10 it comes to 3, where the ill feeling is.
        x.steps(24);
        dueOneOfThree("at the bottom", x, 4, 11, 0);
        x.melt(1);
        dueOneOfThree("behind a day", x, 4, 3, 8);
        x.go(1, 0);
        dueOneOfThree("let go once more", x, 4, 0, 11);
        x.undo();
        dueOneOfThree("undone", x, 4, 3, 8);
    }

    @Says(at = "==== 1", text = "are of a KIND, HEAVY by 0 .. 9, LIE at a CELL")
    private static void promise04_things_areAsTheyWereTold() {
        VillageBall x = new VillageBall();
        for (int t = 0; t < 8; t++) {
            Bounds.due("its number", x.thing(t % 5, 9 - t, t + 4), t);
        }
        for (int t = 0; t < 8; t++) {
            Bounds.dueAll("of " + t, Check.ofThing(x, t), t % 5, 9 - t, t + 4, NONE, 0);
        }
    }

    // ---- 1 a step, kinds

    @Says(at = "==== 1", text = "A STEP, if it does not REST: at its CELL it is FASTER by DROP")
    private static void promise10_step_byTheDropOfItsCell() {
        VillageBall x = letGo("70,10,40,20", 1, 0);
        int[] fast = {7, 8, 12, 14};
        for (int f : fast) {
            x.steps(1);
            Bounds.due("fast", x.count(4), f);
        }
    }

    @Says(at = "==== 1", text = "at its CELL it is FASTER by DROP, less by a tenth of how GREAT it is (0 .. 99 then); it is GREATER by"
        + " the SNOW there (999 at most), which is gone; then it meets THINGS that LIE there, rising.")
    private static void promise10_step_oneBehindTheOther() {
        // Great by 8 it is not slowed yet; then the snow makes it great enough for the plain one; fast by 15 it
        // passes the slick one by.
        VillageBall x = letGo("12,00,00,00;p9@0,s1@0", 8, 14);
        x.steps(1);
        Bounds.dueAll("great, fast, in it", new int[] {x.count(3), x.count(4), x.count(6)}, 19, 15, 1);
        // The heavy one is met first: it slows the ball, and the slick one is taken up.
        VillageBall y = letGo("11,00,00,00;p9@0,s1@0", 7, 14);
        y.steps(1);
        Bounds.dueAll("great, fast, in it", new int[] {y.count(3), y.count(4), y.count(6)}, 9, 6, 2);
    }

    /** One thing of a kind by its number, at the top of a level slope, met by a ball: great, fast, in it. */
    private static void dueMet(int kind, int heavy, int great, int fast, int... want) {
        VillageBall x = Villages.level(10);
        x.thing(kind, heavy, 0);
        x.go(great, fast);
        x.steps(1);
        int[] got = {x.count(3), x.count(4), x.count(6)};
        Bounds.dueAll("kind " + kind + ", heavy by " + heavy + ", great by " + great + ", fast by " + fast, got, want);
    }

    @Says(at = "==== 1", text = "By KIND, a THING that it meets: 0 PLAIN: is taken up, if THE BALL is GREAT by as much as it is HEAVY,"
        + " or more: GREATER by that (999 at most); else THE BALL is less FAST by that (0 at least), it LIES on.")
    private static void promise10_kind0_plain() {
        dueMet(0, 4, 4, 30, 8, 30, 1);
        dueMet(0, 4, 3, 30, 3, 26, 0);
    }

    @Says(at = "==== 1", text = "Below it 1 LIGHT: is taken up in any case.")
    private static void promise10_kind1_lightMakesItGreaterAsPlainDoes() {
        dueMet(1, 4, 4, 30, 8, 30, 1);
        dueMet(1, 4, 3, 30, 7, 30, 1);
    }

    @Says(at = "==== 1", text = "2 SLICK (below PLAIN): as PLAIN, but if THE BALL is FAST by 15 or more, nothing comes of it.")
    private static void promise10_kind2_slick() {
        dueMet(2, 4, 4, 14, 8, 14, 1);
        dueMet(2, 4, 3, 14, 3, 10, 0);
        dueMet(2, 4, 4, 15, 4, 15, 0);
        dueMet(2, 4, 3, 15, 3, 15, 0);
    }

    @Says(at = "==== 1", text = "3 WARM (below LIGHT): is taken up in any case, but THE BALL is less GREAT by that (1 at least).")
    private static void promise10_kind3_warm() {
        dueMet(3, 4, 6, 30, 2, 30, 1);
        dueMet(3, 4, 3, 30, 1, 30, 1);
    }

    @Says(at = "==== 1", text = "4 GRUDGE (below SLICK): as SLICK; taken up, it makes THE BALL GREATER once more by as much.")
    private static void promise10_kind4_grudge() {
        dueMet(4, 4, 4, 14, 12, 14, 1);
        dueMet(4, 4, 3, 14, 3, 10, 0);
        dueMet(4, 4, 4, 15, 4, 15, 0);
    }

    // ---- 2 foretold

    /** What is foretold comes about, and the order too. */
    private static void dueComesAbout(VillageBall x) {
        int[] told = Check.ahead(x);
        int[] order = new int[8];
        for (int k = 0; k < 8; k++) {
            order[k] = x.order(k);
        }
        int fastest = x.count(4);
        int made = 0;
        for (int k = 0; k < 24 && x.count(5) == 0; k++) {
            made += x.steps(1);
            fastest = Math.max(fastest, x.count(4));
        }
        Bounds.dueAll("foretold", told, x.count(2), x.count(3), x.count(6), made, fastest);
        for (int k = 0; k < 8; k++) {
            Bounds.due("the " + k + "-th", order[k] == NONE ? x.order(k) : x.of(order[k], 3), order[k] == NONE ? NONE : k);
        }
    }

    @Says(at = "==== 2", text = "FORETOLD from now, STEP by STEP till THE BALL RESTS (nothing is changed): where it RESTS; how GREAT;"
        + " which THINGS are IN it (a set); how many STEPS; how FAST it was at most (behind a STEP; as it is now, too).")
    private static void promise16_foretold_comesAbout() {
        String things = ";p3@1,l9@2,s2@3,w4@4,g3@6,p9@7,s5@9,l1@12";
        for (int fast = 0; fast <= 99; fast += 9) {
            dueComesAbout(letGo("52,63,41,90,22,35,71,84,10,05,66,93,21,47" + things, 1 + fast / 2, fast));
            dueComesAbout(letGo("02,03,01,00,02,05,01,04,00,05,06,03,01,07" + things, 99 - fast, fast));
        }
    }

    @Says(at = "==== 2", text = "The k-th THING that is IN it then, in the order in which they were taken up (0: the first); none.")
    private static void promise17_order_thoseThatAreInItNowComeFirst() {
        VillageBall x = letGo("00,00,00,00;l1@2,l1@0,l1@1", 1, 1);
        x.steps(1);
        Bounds.dueAll("one is in it", new int[] {x.order(0), x.order(1), x.order(2), x.order(3)}, 1, 2, 0, NONE);
    }

    @Says(at = "==== 2", text = "PUSH: the least by which it would have to be more FAST now (0 .. 99, not above 99 in all) so that it"
        + " comes to the BOTTOM; none.")
    private static void promise18_push_inMidSlope() {
        VillageBall x = letGo("00,00,00,00;p9@2", 1, 3);
        x.steps(1);
        Bounds.due("10 in all are wanted at 2", x.push(), 7);
        Bounds.due("it rests without", x.ahead(0), 2);
    }

    @Says(at = "==== 2", text = "BANK: the CELL at which, if it has a BANK (DROP 0 there, THE BALL is less FAST by 20 behind the DROP,"
        + " 0 at least), THE BALL RESTS least far down, of like ones the first; where it RESTS then.")
    private static void promise19_bank_theFirstIsNotTheBest() {
        // A bank at 0 lets it take up the light one, which makes it great enough for both plain ones: the bottom.
        // One at 2 leaves 1, and it rests at 4; so does one at 4; one at 5 stops it there.
        VillageBall x = letGo("00,00,00,00,00,00;l9@1,p9@2,p9@4", 1, 30);
        Bounds.dueAll("at 2, it rests at 4", new int[] {x.bank(0), x.bank(1)}, 2, 4);
        VillageBall y = letGo("90,90,90,90", 1, 20);
        Bounds.dueAll("without the drop there it is stopped at once", new int[] {y.bank(0), y.bank(1)}, 0, 0);
    }

    @Says(at = "==== 2", text = "SPARE for a THING: the fewest other THINGS that LIE, taken away now")
    private static void promise21_spare_theOneThatMakesItGreat() {
        VillageBall x = letGo("00,00,00,00;l1@3,l5@0,p5@1,l9@2", 1, 5);
        Bounds.dueAll("of the plain one", new int[] {x.spare(2, 0), x.spare(2, 1)}, 1, 2);
        Bounds.dueAll("the ball is stopped at 1 then, too", new int[] {x.spare(3, 0), x.spare(3, 1)}, 1, 2);
        Bounds.dueAll("of the light one at 0", new int[] {x.spare(1, 0), x.spare(1, 1)}, NONE, NONE);
    }

    // ---- 3 seen, undone, the draw

    @Says(at = "==== 3", text = "SEEN: a row tells where THE BALL is (a CELL, the BOTTOM) behind each of n STEPS")
    private static void promise24_seen_whatWasFilmed() {
        VillageBall x = letGo("52,13,41,00,22,35;p3@1,l9@2,w4@4", 3, 37);
        x.sheet(2, 1, 8);
        x.film(8, 2, 1, 0);
        int many = x.seen(3, 2, 1, 0, 8, 0);
        int least = x.seen(3, 2, 1, 0, 8, 1);
        // Fast by f and 5 at 0: 35 .. 54 leap by 3 to 3, where nothing lies; then by 3 to the bottom from 40 on,
        // below it by 2 to 5, and then there. So 35 .. 54 come from 3 to the bottom at once.
        Bounds.dueAll("how many, the least", new int[] {many, least}, 20, 35);
    }

    @Says(at = "==== 3", text = "UNDONE: the latest STEP, DAY, FALL of SNOW, LETTING GO is as it had not been (8 are known, older ones lost)")
    private static void promise14_undone_eachOfThem() {
        VillageBall x = story();
        Bounds.dueAll("let go", Check.counts(x), 4, 2, 0, 1, 0, 0, 0, 4, 1);
        x.steps(24);
        x.melt(1);
        x.snow(2);
        Bounds.dueAll("snow has fallen", Check.counts(x), 4, 2, 4, 9, 11, 1, 1, 8, 7);
        x.undo();
        Bounds.dueAll("without the snow", Check.counts(x), 4, 2, 4, 9, 11, 1, 1, 0, 6);
        x.undo();
        Bounds.dueAll("without the day", Check.counts(x), 4, 2, 4, 13, 11, 1, 3, 0, 5);
        x.undo();
        Bounds.dueAll("without the fourth step", Check.counts(x), 4, 2, 3, 12, 9, 0, 3, 1, 4);
        x.undo();
        x.undo();
        x.undo();
        Bounds.dueAll("without any step", Check.counts(x), 4, 2, 0, 1, 0, 0, 0, 4, 1);
        x.undo();
        Bounds.dueAll("it was not let go", Check.counts(x), 4, 2, 0, 1, 0, 1, 0, 4, 0);
    }

    @Says(at = "==== 3", text = "DRIFT by a seed: THE DRAW is a number of 31 bits (1 at first); n times it becomes the lowest 31 bits of"
        + " itself times 1103515245 and 12345 more: on the CELL that is it by 65536, left over by how many there are, 1 SNOW"
        + " more falls (9 at most).")
    private static void promise13_drift_draws() {
        VillageBall x = Check.ofText("00,00,00,00,00,00,00");
        int[] snow = new int[7];
        long draw = 1;
        for (int k = 0; k < 40; k++) {
            draw = Math.floorMod(draw * 1103515245L + 12345L, 1L << 31);
            int cell = (int) (draw / 65536 % 7);
            snow[cell] = Math.min(9, snow[cell] + 1);
        }
        x.drift(40);
        Bounds.dueAll("snow", Check.snows(x), snow);
        Bounds.due("the draw", x.seed(0), draw);
    }

    // ---- promises

    @Says(at = "Promise 3", text = "Of a CELL: 0 DROP, 1 SNOW, 2 THINGS that LIE there (a set).")
    private static void promise03_at() {
        VillageBall x = Check.ofText("12,34,56,78;p1@2,p1@0,p1@2");
        int[][] dues = {{1, 2, 2}, {3, 4, 0}, {5, 6, 5}, {7, 8, 0}};
        for (int c = 0; c < 4; c++) {
            Bounds.dueAll("at " + c, new int[] {x.at(c, 0), x.at(c, 1), x.at(c, 2)}, dues[c]);
        }
    }

    @Says(at = "Promise 5", text = "Of a THING: 0 KIND, 1 HEAVY, 2 the CELL where it LIES (NONE: it does not), 3 its place in the order IN"
        + " THE BALL (0 on; NONE), 4 whether BACK (1, 0).")
    private static void promise05_of() {
        VillageBall x = letGo("00,00,00,00;w8@3,s2@1,l7@0,g3@0", 3, 1);
        x.steps(2);
        Bounds.dueAll("it lies", Check.ofThing(x, 0), 3, 8, 3, NONE, 0);
        // 3, then 10 by the light one, then 16 by the ill feeling: a tenth of it stops the ball at 1.
        Bounds.dueAll("taken up third", Check.ofThing(x, 1), 2, 2, NONE, 2, 0);
        Bounds.dueAll("taken up first", Check.ofThing(x, 2), 1, 7, NONE, 0, 0);
        Bounds.dueAll("taken up second", Check.ofThing(x, 3), 4, 3, NONE, 1, 0);
        x.melt(1);
        Bounds.dueAll("back", Check.ofThing(x, 1), 2, 2, NONE, NONE, 1);
    }

    @Says(at = "Promise 6", text = "One letter more behind THE TAPE: how many it has.")
    private static void promise06_type() {
        VillageBall x = new VillageBall();
        String text = "12,34,56,78";
        for (int k = 0; k < text.length(); k++) {
            Bounds.due("how many", x.type(text.charAt(k)), k + 1);
        }
        Bounds.due("in the order in which they came", x.village(), 4);
        Bounds.dueAll("drop and snow of 3", new int[] {x.at(3, 0), x.at(3, 1)}, 7, 8);
    }

    @Says(at = "Promise 24", text = "SEEN by n items of a SHEET taken as a row of a LANE, from item i on, GREAT by g (1 .. 99)")
    private static void promise24_seen_fromItemOn() {
        for (int lane = 0; lane < 4; lane++) {
            VillageBall x = Villages.level(10);
            Villages.rowOf(x, 1, lane, 9, 2, 4, 6);
            Bounds.due("from item 1 on", x.seen(1, 1, lane, 1, 3, 1), 20);
            Bounds.due("from item 0 on", x.seen(1, 1, lane, 0, 3, 1), NONE);
            // Great by 10 it is slower by 1 at each step: 21 is the least that is still 20 behind one, 23 behind three.
            Bounds.due("greater: one step", x.seen(10, 1, lane, 1, 1, 1), 21);
            Bounds.due("greater: three steps", x.seen(10, 1, lane, 1, 3, 1), 23);
            Bounds.due("of another lane", x.seen(1, 1, lane ^ 1, 1, 3, 1), CAST);
        }
    }

    @Says(at = "Promise 25", text = "Where THE BALL is behind 1, 2, .. n STEPS (1 .. 24) from now on (where it RESTS it is on), an item each,"
        + " comes to a SHEET likewise: n.")
    private static void promise25_film_anItemEach() {
        VillageBall x = letGo("00,00,00,00;p5@2", 1, 5);
        Villages.rowOf(x, 3, 1, 3, 3, 3, 3, 3, 3);
        Bounds.due("film", x.film(4, 3, 1, 1), 4);
        Bounds.due("nothing is changed", x.count(2), 0);
        Check.read(x, "00,00,00,00,00,00");
        Bounds.dueAll("items", Villages.items(x, 3, 1, 6), 3, 1, 2, 2, 2, 3);
    }

    @Says(at = "Promise 28", text = "Item i of a SHEET, taken as a row of a LANE, becomes v, its lowest bits: 1.")
    private static void promise28_item_thatOneAlone() {
        VillageBall x = Villages.level(6);
        for (int lane = 0; lane < 4; lane++) {
            x.sheet(lane, lane, 3);
            Bounds.due("item", x.item(lane, lane, 1, 4), 1);
            Bounds.dueAll("items of lane " + lane, Villages.items(x, lane, lane, 3), 0, 4, 0);
        }
    }
}
