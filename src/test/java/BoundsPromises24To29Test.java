import java.util.function.Supplier;

/** The bounds that promises 24 to 29 name, and the line ahead of them: what is seen, films, sheets. */
public final class BoundsPromises24To29Test {
    private static final int NONE = -4, NULL = -11, CAST = -12, INDEX = -13, SIZE = -14;
    private static final int MOST = Integer.MAX_VALUE, LEAST = Integer.MIN_VALUE;
    private static final Supplier<VillageBall> ROLLING = Villages::rolling;
    private static final Supplier<VillageBall> NEW = VillageBall::new;

    public static void main(String[] args) throws Exception {
        Bounds.run(BoundsPromises24To29Test.class);
    }

    // ---- the line ahead of the calls

    @Says(at = "Ahead of the calls", text = "sheets 0 .. 3: nothing (at first)")
    private static void sheets_0To3_nothingAtFirst() {
        VillageBall x = new VillageBall();
        for (int s = 0; s <= 3; s++) {
            Bounds.due("nothing", x.drop(s), NULL);
            Bounds.due("a row", x.sheet(s, s, 24), 24);
        }
        for (int s = 0; s <= 3; s++) {
            Bounds.due("each its own", x.drop(s), 24);
        }
        Bounds.bad("sheet", NEW, (y, s) -> y.sheet(s, 0, 1), -1, 4);
    }

    @Says(at = "Ahead of the calls", text = "or a row of a LANE: 0 bytes, 1 shorts, 2 ints, 3 longs, of 0 to 24 items.")
    private static void lanes_theirFirstAndLastNumbers() {
        long[] least = {Byte.MIN_VALUE, Short.MIN_VALUE, Integer.MIN_VALUE, Long.MIN_VALUE};
        for (int lane = 0; lane <= 3; lane++) {
            // 3 beyond what a lane holds wraps around to the least: only there an item of 3 comes of it.
            long span = lane == 3 ? 0 : -2 * least[lane];
            VillageBall x = Villages.level(4);
            Villages.rowOf(x, 0, lane, 3, 3 + span, 3 - span, 3 + 7 * span, least[lane], -least[lane] - 1, 3 + least[lane]);
            Bounds.dueAll("lane " + lane, Villages.items(x, 0, lane, 7), 3, 3, 3, 3, NONE, NONE, NONE);
        }
    }

    @Says(at = "Ahead of the calls", text = "or a row of a LANE: 0 bytes, 1 shorts, 2 ints, 3 longs, of 0 to 24 items.")
    private static void lanes_0To24Items() {
        for (int lane = 0; lane <= 3; lane++) {
            VillageBall x = new VillageBall();
            Bounds.due("none", x.sheet(0, lane, 0), 0);
            Bounds.due("no first", x.item(0, lane, 0, 1), INDEX);
            Bounds.due("24", x.sheet(0, lane, 24), 24);
            Bounds.due("the first", x.item(0, lane, 0, 1), 1);
            Bounds.due("the last", x.item(0, lane, 23, 1), 1);
            Bounds.due("behind the last", x.item(0, lane, 24, 1), INDEX);
        }
    }

    // ---- promise 24

    @Says(at = "Promise 24", text = "GREAT by g (1 .. 99)")
    private static void promise24_BAD_greatTooSmallOrTooLarge() {
        Bounds.bad("great", ROLLING, (x, g) -> x.seen(g, 0, 2, 0, 1, 0), 0, 100, -1, 999, MOST, LEAST);
    }

    @Says(at = "Promise 24", text = "GREAT by g (1 .. 99)")
    private static void promise24_greatBy1And99() {
        VillageBall x = Villages.level(24);
        Villages.row(x, 0, 1, 5);
        int[] by1 = {x.seen(1, 0, 2, 0, 1, 0), x.seen(1, 0, 2, 1, 1, 1), x.seen(1, 0, 2, 2, 1, 0)};
        Bounds.dueAll("great by 1: 0; from 1 on; 80 to 99", by1, 1, 1, 20);
        int[] by99 = {x.seen(99, 0, 2, 0, 1, 0), x.seen(99, 0, 2, 1, 1, 1), x.seen(99, 0, 2, 2, 1, 0)};
        Bounds.dueAll("great by 99: 0 to 9; from 10 on; 89 to 99", by99, 10, 10, 11);
    }

    @Says(at = "Promise 24", text = "BAD; NULL; CAST; INDEX.")
    private static void promise24_BAD_noSuchSheetLaneWhat() {
        Bounds.bad("sheet", ROLLING, (x, s) -> x.seen(1, s, 2, 0, 1, 0), -1, 4, MOST, LEAST);
        Bounds.bad("lane", ROLLING, (x, lane) -> x.seen(1, 0, lane, 0, 1, 0), -1, 4, MOST, LEAST);
        Bounds.bad("what", ROLLING, (x, what) -> x.seen(1, 0, 2, 0, 1, what), -1, 2, MOST, LEAST);
    }

    @Says(at = "Promise 24", text = "BAD; NULL; CAST; INDEX.")
    private static void promise24_BAD_nTooSmallOrTooLarge() {
        Supplier<VillageBall> wide = () -> {
            VillageBall x = Villages.level(4);
            x.sheet(0, 2, 24);
            return x;
        };
        Bounds.bad("n", wide, (x, n) -> x.seen(1, 0, 2, 0, n, 0), 0, 9, 24, -1, MOST, LEAST);
        Bounds.asked("8", wide, x -> x.seen(1, 0, 2, 0, 8, 0), 1);
        Bounds.asked("1", wide, x -> x.seen(1, 0, 2, 0, 1, 0), 1);
    }

    @Says(at = "Promise 24", text = "BAD; NULL; CAST; INDEX.")
    private static void promise24_NULL_nothingThere() {
        Bounds.asked("never", ROLLING, x -> x.seen(1, 3, 0, 0, 1, 0), NULL);
        Supplier<VillageBall> dropped = () -> {
            VillageBall x = Villages.rolling();
            x.drop(0);
            return x;
        };
        Bounds.asked("no more", dropped, x -> x.seen(1, 0, 2, 0, 1, 1), NULL);
    }

    @Says(at = "Promise 24", text = "BAD; NULL; CAST; INDEX.")
    private static void promise24_CAST_anotherLane() {
        for (int lane = 0; lane <= 3; lane++) {
            VillageBall x = Villages.level(4);
            x.sheet(0, lane, 1);
            for (int as = 0; as <= 3; as++) {
                Bounds.due(lane + " as " + as, x.seen(1, 0, as, 0, 1, 0), as == lane ? 1 : CAST);
            }
        }
    }

    @Says(at = "Promise 24", text = "BAD; NULL; CAST; INDEX.")
    private static void promise24_INDEX_outsideTheRow() {
        for (int i : new int[] {-1, 3, 4, 24, MOST, MOST - 1, LEAST}) {
            Bounds.asked("1 from " + i, ROLLING, x -> x.seen(1, 0, 2, i, 1, 0), INDEX);
        }
        Bounds.asked("2 from the last", ROLLING, x -> x.seen(1, 0, 2, 2, 2, 0), INDEX);
        Bounds.asked("4 of 3", ROLLING, x -> x.seen(1, 0, 2, 0, 4, 0), INDEX);
        Bounds.asked("8 from far away", ROLLING, x -> x.seen(1, 0, 2, MOST - 6, 8, 0), INDEX);
        Bounds.asked("1 of none", ROLLING, x -> x.seen(1, 2, 3, 0, 1, 0), INDEX);
        Bounds.asked("all 3: 9 faster by the drop, 9 and less 9, it goes by one cell", ROLLING,
            x -> x.seen(1, 0, 2, 0, 3, 0), 11);
    }

    @Says(at = "Promise 24", text = "how many (what 0), the least (1; NONE).")
    private static void promise24_NONE_noneIsSo() {
        VillageBall x = Villages.level(4);
        Villages.row(x, 2, 3, 4, -1, 5);
        Bounds.dueAll("no such way", new int[] {x.seen(1, 0, 2, 0, 2, 0), x.seen(1, 0, 2, 0, 2, 1)}, 0, NONE);
        Bounds.dueAll("no such place", new int[] {x.seen(1, 0, 2, 3, 1, 0), x.seen(1, 0, 2, 3, 1, 1)}, 0, NONE);
        Bounds.dueAll("beyond the bottom", new int[] {x.seen(1, 0, 2, 4, 1, 0), x.seen(1, 0, 2, 4, 1, 1)}, 0, NONE);
        x.item(0, 2, 0, 0);
        Bounds.dueAll("0 is not NONE", new int[] {x.seen(1, 0, 2, 0, 1, 0), x.seen(1, 0, 2, 0, 1, 1)}, 1, 0);
    }

    // ---- promise 25

    @Says(at = "Promise 25", text = "behind 1, 2, .. n STEPS (1 .. 24) from now on")
    private static void promise25_BAD_nTooSmallOrTooLarge() {
        Supplier<VillageBall> wide = () -> {
            VillageBall x = Villages.rolling();
            x.sheet(0, 2, 24);
            return x;
        };
        Bounds.bad("film", wide, (x, n) -> x.film(n, 0, 2, 0), 0, 25, -1, MOST, LEAST);
    }

    @Says(at = "Promise 25", text = "behind 1, 2, .. n STEPS (1 .. 24) from now on")
    private static void promise25_oneAnd24() {
        VillageBall x = Villages.level(4);
        x.go(1, 1);
        x.sheet(0, 2, 24);
        Bounds.due("one, to the last item", x.film(1, 0, 2, 23), 1);
        int[] want = new int[24];
        want[23] = 1;
        Bounds.dueAll("only that one", Villages.items(x, 0, 2, 24), want);
        Bounds.due("24", x.film(24, 0, 2, 0), 24);
        for (int i = 0; i < 24; i++) {
            want[i] = Math.min(4, i + 1);
        }
        Bounds.dueAll("all", Villages.items(x, 0, 2, 24), want);
        Bounds.dueAll("no step is made by it", Check.counts(x), 4, 0, 0, 1, 1, 0, 0, 0, 1);
        x.steps(2);
        x.film(2, 0, 2, 0);
        Bounds.dueAll("from now on", Villages.items(x, 0, 2, 4), 3, 4, 3, 4);
    }

    @Says(at = "Promise 25", text = "behind 1, 2, .. n STEPS (1 .. 24) from now on")
    private static void promise25_24StepsOnALongSlope() {
        VillageBall x = Villages.level(24);
        x.go(1, 1);
        x.sheet(0, 2, 24);
        Bounds.due("24", x.film(24, 0, 2, 0), 24);
        Bounds.due("the first eight: one cell each time", x.seen(1, 0, 2, 0, 8, 0), 19);
        // The last item is the bottom: four leaps of five cells, then it, tell so.
        Villages.rowOf(x, 1, 2, 5, 10, 15, 20, 0);
        x.copy(0, 23, 1, 4, 1);
        Bounds.due("the bottom", x.seen(1, 1, 2, 0, 5, 1), 80);
        x.copy(0, 22, 1, 4, 1);
        Bounds.due("one item earlier it is not there", x.seen(1, 1, 2, 0, 5, 1), NONE);
    }

    @Says(at = "Promise 25", text = "(where it RESTS it is on)")
    private static void promise25_whereItRestsItIsOn() {
        for (int lane = 0; lane <= 3; lane++) {
            VillageBall x = Villages.level(4);
            Villages.rowOf(x, 0, lane, 3, 3, 3, 3);
            x.film(4, 0, lane, 0);
            Bounds.dueAll("at rest at first", Villages.items(x, 0, lane, 4), 0, 0, 0, 0);
            x.go(1, 0);
            Villages.rowOf(x, 0, lane, 3, 3, 3, 3);
            x.film(4, 0, lane, 0);
            Bounds.dueAll("it rests at once", Villages.items(x, 0, lane, 4), 0, 0, 0, 0);
            x.go(1, 99);
            x.steps(1);
            x.film(4, 0, lane, 0);
            Bounds.dueAll("at the bottom", Villages.items(x, 0, lane, 4), 4, 4, 4, 4);
        }
    }

    @Says(at = "Promise 25", text = "(where it RESTS it is on)")
    private static void promise25_whereItRestsItIsOn_thoughTheSlopeDrops() {
        VillageBall first = Check.ofText("99,99,99,99");
        Villages.row(first, 3, 3, 3, 3);
        first.film(4, 0, 2, 0);
        // The first thing stops it, the second makes it great enough for the first: a step more would go on.
        VillageBall stopped = Check.ofText("00,50,90,90;p9@1,l9@1");
        stopped.go(1, 4);
        Villages.row(stopped, 3, 3, 3, 3);
        stopped.film(4, 0, 2, 0);
        Check.read(first, "00,00,00,00");
        Check.read(stopped, "00,00,00,00");
        Bounds.dueAll("at rest at first", Villages.items(first, 0, 2, 4), 0, 0, 0, 0);
        Bounds.dueAll("stopped at 1", Villages.items(stopped, 0, 2, 4), 1, 1, 1, 1);
    }

    @Says(at = "Promise 25", text = "BAD; NULL; CAST; INDEX.")
    private static void promise25_BAD_noSuchSheetLane() {
        Bounds.bad("sheet", ROLLING, (x, s) -> x.film(1, s, 2, 0), -1, 4, MOST, LEAST);
        Bounds.bad("lane", ROLLING, (x, lane) -> x.film(1, 0, lane, 0), -1, 4, MOST, LEAST);
    }

    @Says(at = "Promise 25", text = "BAD; NULL; CAST; INDEX.")
    private static void promise25_NULL_nothingThere() {
        Bounds.asked("never", ROLLING, x -> x.film(1, 3, 0, 0), NULL);
        Bounds.asked("at first", NEW, x -> x.film(24, 0, 0, 0), NULL);
    }

    @Says(at = "Promise 25", text = "BAD; NULL; CAST; INDEX.")
    private static void promise25_CAST_anotherLane() {
        for (int lane = 0; lane <= 3; lane++) {
            VillageBall x = Villages.level(4);
            Villages.rowOf(x, 0, lane, 3);
            for (int as = 0; as <= 3; as++) {
                if (as != lane) {
                    Bounds.due(lane + " as " + as, x.film(1, 0, as, 0), CAST);
                }
            }
            Bounds.dueAll("nothing came to it", Villages.items(x, 0, lane, 1), 3);
            Bounds.due("as it is", x.film(1, 0, lane, 0), 1);
        }
    }

    @Says(at = "Promise 25", text = "BAD; NULL; CAST; INDEX.")
    private static void promise25_INDEX_outsideTheRow() {
        for (int i : new int[] {-1, 3, 4, 24, MOST, MOST - 1, LEAST}) {
            Bounds.asked("1 from " + i, ROLLING, x -> x.film(1, 0, 2, i), INDEX);
        }
        Bounds.asked("2 from the last", ROLLING, x -> x.film(2, 0, 2, 2), INDEX);
        Bounds.asked("4 of 3", ROLLING, x -> x.film(4, 0, 2, 0), INDEX);
        Bounds.asked("24 from far away", ROLLING, x -> x.film(24, 0, 2, MOST - 22), INDEX);
        Bounds.asked("1 of none", ROLLING, x -> x.film(1, 2, 3, 0), INDEX);
        Bounds.due("all 3", Villages.rolling().film(3, 0, 2, 0), 3);
        Bounds.due("the last", Villages.rolling().film(1, 0, 2, 2), 1);
    }

    // ---- promise 26

    @Says(at = "Promise 26", text = "BAD: also n above 24")
    private static void promise26_BAD_noSuchSheetLane() {
        Bounds.bad("sheet", ROLLING, (x, s) -> x.sheet(s, 0, 1), -1, 4, MOST, LEAST);
        Bounds.bad("lane", ROLLING, (x, lane) -> x.sheet(0, lane, 1), -1, 4, MOST, LEAST);
    }

    @Says(at = "Promise 26", text = "BAD: also n above 24")
    private static void promise26_BAD_nAbove24() {
        Bounds.bad("n", ROLLING, (x, n) -> x.sheet(0, 2, n), 25, 26, MOST);
        Bounds.bad("n, nothing there", NEW, (x, n) -> x.sheet(0, 2, n), 25, MOST);
        Bounds.due("24", new VillageBall().sheet(0, 2, 24), 24);
    }

    @Says(at = "Promise 26", text = "SIZE: n below 0")
    private static void promise26_SIZE_nBelow0() {
        for (int n : new int[] {-1, -24, LEAST}) {
            Bounds.asked("a row is there", ROLLING, x -> x.sheet(0, 2, n), SIZE);
            Bounds.asked("nothing is there", NEW, x -> x.sheet(3, 3, n), SIZE);
        }
        VillageBall x = new VillageBall();
        Bounds.due("0", x.sheet(0, 2, 0), 0);
        Bounds.due("0 is a row, too", x.drop(0), 0);
    }

    @Says(at = "Promise 26", text = "A SHEET holds a new row of a LANE: n.")
    private static void promise26_theNewRowIsOfZeros() {
        for (int lane = 0; lane <= 3; lane++) {
            VillageBall x = Villages.level(4);
            Villages.rowOf(x, 0, 2, 1, 2, 3, 4);
            Bounds.due("a longer one", x.sheet(0, lane, 5), 5);
            Bounds.dueAll("its items", Villages.items(x, 0, lane, 6), 0, 0, 0, 0, 0, INDEX);
            x.item(0, lane, 4, 4);
            Bounds.due("a shorter one", x.sheet(0, lane, 2), 2);
            Bounds.dueAll("its items", Villages.items(x, 0, lane, 3), 0, 0, INDEX);
            Bounds.due("a longer one again", x.sheet(0, lane, 6), 6);
            Bounds.dueAll("its items", Villages.items(x, 0, lane, 7), 0, 0, 0, 0, 0, 0, INDEX);
        }
    }

    // ---- promise 27

    @Says(at = "Promise 27", text = "BAD; NULL.")
    private static void promise27_BAD_noSuchSheet() {
        Bounds.bad("drop", ROLLING, VillageBall::drop, -1, 4, MOST, LEAST);
    }

    @Says(at = "Promise 27", text = "BAD; NULL.")
    private static void promise27_NULL_nothingThere() {
        Bounds.asked("never", ROLLING, x -> x.drop(3), NULL);
        Supplier<VillageBall> dropped = () -> {
            VillageBall x = Villages.rolling();
            x.drop(0);
            return x;
        };
        Bounds.asked("no more", dropped, x -> x.drop(0), NULL);
    }

    @Says(at = "Promise 27", text = "A SHEET holds nothing: how many items it had.")
    private static void promise27_0And24Items() {
        VillageBall x = new VillageBall();
        for (int lane = 0; lane <= 3; lane++) {
            x.sheet(lane, lane, 24);
            Bounds.due("24", x.drop(lane), 24);
            x.sheet(lane, lane, 0);
            Bounds.due("0", x.drop(lane), 0);
            Bounds.due("nothing", x.drop(lane), NULL);
        }
    }

    @Says(at = "Promise 27", text = "A SHEET holds nothing: how many items it had.")
    private static void promise27_nothingOfItIsLeft() {
        VillageBall x = Villages.level(4);
        Villages.row(x, 1, 2, 3);
        Villages.rowOf(x, 1, 2, 4, 4);
        x.drop(0);
        Bounds.due("no item", x.item(0, 2, 0, 1), NULL);
        Bounds.due("none is seen", x.seen(1, 0, 2, 0, 1, 0), NULL);
        x.sheet(0, 2, 3);
        Bounds.dueAll("a new row", Villages.items(x, 0, 2, 3), 0, 0, 0);
        Bounds.dueAll("another sheet stays", Villages.items(x, 1, 2, 2), 4, 4);
    }

    // ---- promise 28

    @Says(at = "Promise 28", text = "BAD; NULL; CAST; INDEX.")
    private static void promise28_BAD_noSuchSheetLane() {
        Bounds.bad("sheet", ROLLING, (x, s) -> x.item(s, 2, 0, 4), -1, 4, MOST, LEAST);
        Bounds.bad("lane", ROLLING, (x, lane) -> x.item(0, lane, 0, 4), -1, 4, MOST, LEAST);
    }

    @Says(at = "Promise 28", text = "BAD; NULL; CAST; INDEX.")
    private static void promise28_NULL_nothingThere() {
        Bounds.asked("never", ROLLING, x -> x.item(3, 0, 0, 4), NULL);
        Bounds.asked("at first", NEW, x -> x.item(0, 0, 0, 4), NULL);
    }

    @Says(at = "Promise 28", text = "BAD; NULL; CAST; INDEX.")
    private static void promise28_CAST_anotherLane() {
        for (int lane = 0; lane <= 3; lane++) {
            VillageBall x = Villages.level(4);
            Villages.rowOf(x, 0, lane, 3);
            for (int as = 0; as <= 3; as++) {
                if (as != lane) {
                    Bounds.due(lane + " as " + as, x.item(0, as, 0, 4), CAST);
                }
            }
            Bounds.dueAll("it is as it was", Villages.items(x, 0, lane, 1), 3);
        }
    }

    @Says(at = "Promise 28", text = "BAD; NULL; CAST; INDEX.")
    private static void promise28_INDEX_outsideTheRow() {
        for (int i : new int[] {-1, 3, 23, 24, MOST, LEAST}) {
            Bounds.asked("item " + i + " of 3", ROLLING, x -> x.item(0, 2, i, 4), INDEX);
        }
        Bounds.asked("item 0 of none", ROLLING, x -> x.item(2, 3, 0, 4), INDEX);
        VillageBall x = Villages.level(4);
        x.sheet(0, 2, 24);
        Bounds.due("the first", x.item(0, 2, 0, 3), 1);
        Bounds.due("the last", x.item(0, 2, 23, 4), 1);
        int[] want = new int[24];
        want[0] = 3;
        want[23] = 4;
        Bounds.dueAll("those alone", Villages.items(x, 0, 2, 24), want);
    }

    @Says(at = "Promise 28", text = "becomes v, its lowest bits: 1.")
    private static void promise28_itsLowestBits() {
        int[] bits = {8, 16, 32};
        for (int lane = 0; lane <= 3; lane++) {
            VillageBall x = Villages.level(4);
            x.sheet(0, lane, 1);
            for (int b = 0; b < 3; b++) {
                boolean cut = b >= lane;
                for (long v : new long[] {(1L << bits[b]) + 2, 2 - (1L << bits[b]), Long.MIN_VALUE + 2}) {
                    boolean isCut = v == Long.MIN_VALUE + 2 ? lane < 3 : cut;
                    Bounds.due("item", x.item(0, lane, 0, v), 1);
                    Bounds.dueAll("lane " + lane + ", " + v, Villages.items(x, 0, lane, 1), isCut ? 2 : NONE);
                }
            }
        }
    }

    @Says(at = "Promise 28", text = "becomes v, its lowest bits: 1.")
    private static void promise28_theHighestBitIsKept() {
        int[] bits = {8, 16, 32, 64};
        for (int lane = 0; lane <= 3; lane++) {
            VillageBall x = Villages.level(4);
            x.sheet(0, lane, 1);
            x.item(0, lane, 0, (1L << bits[lane] - 1) + 2);
            Bounds.dueAll("lane " + lane, Villages.items(x, 0, lane, 1), NONE);
        }
    }

    // ---- promise 29

    @Says(at = "Promise 29", text = "BAD; NULL (either); CAST: of unlike LANES; INDEX.")
    private static void promise29_BAD_noSuchSheet() {
        Bounds.bad("from", ROLLING, (x, s) -> x.copy(s, 0, 0, 0, 1), -1, 4, MOST, LEAST);
        Bounds.bad("to", ROLLING, (x, s) -> x.copy(0, 0, s, 0, 1), -1, 4, MOST, LEAST);
    }

    @Says(at = "Promise 29", text = "BAD; NULL (either); CAST: of unlike LANES; INDEX.")
    private static void promise29_NULL_either() {
        Bounds.asked("from nothing", ROLLING, x -> x.copy(3, 0, 0, 0, 1), NULL);
        Bounds.asked("to nothing", ROLLING, x -> x.copy(0, 0, 3, 0, 1), NULL);
        Bounds.asked("from nothing to itself", ROLLING, x -> x.copy(3, 0, 3, 0, 0), NULL);
        Bounds.asked("none, from nothing", ROLLING, x -> x.copy(3, 0, 0, 0, 0), NULL);
        Bounds.asked("none, to nothing", ROLLING, x -> x.copy(0, 0, 3, 0, 0), NULL);
    }

    @Says(at = "Promise 29", text = "BAD; NULL (either); CAST: of unlike LANES; INDEX.")
    private static void promise29_CAST_ofUnlikeLanes() {
        for (int from = 0; from <= 3; from++) {
            for (int to = 0; to <= 3; to++) {
                VillageBall x = Villages.level(4);
                Villages.rowOf(x, 0, from, 1);
                Villages.rowOf(x, 1, to, 2);
                Bounds.due(from + " to " + to, x.copy(0, 0, 1, 0, 1), from == to ? 1 : CAST);
                Bounds.dueAll("its item", Villages.items(x, 1, to, 1), from == to ? 1 : 2);
            }
        }
        Bounds.asked("none of them", ROLLING, x -> x.copy(0, 0, 1, 0, 0), CAST);
    }

    /** Two rows of ints: 0, 1, 2 and 3, 4. */
    private static VillageBall two() {
        VillageBall x = Villages.level(4);
        Villages.rowOf(x, 0, 2, 0, 1, 2);
        Villages.rowOf(x, 1, 2, 3, 4);
        return x;
    }

    @Says(at = "Promise 29", text = "BAD; NULL (either); CAST: of unlike LANES; INDEX.")
    private static void promise29_INDEX_outsideEitherRow() {
        int[][] outside = {{-1, 0, 1}, {3, 0, 1}, {2, 0, 2}, {0, -1, 1}, {0, 2, 1}, {0, 1, 2}, {0, 0, 3},
            {MOST, 0, 1}, {0, MOST, 1}, {LEAST, 0, 1}, {0, LEAST, 1}, {1, 0, MOST}, {0, 1, MOST}, {MOST, MOST, MOST}};
        for (int[] o : outside) {
            Bounds.asked("from " + o[0] + " to " + o[1] + ", " + o[2], BoundsPromises24To29Test::two,
                x -> x.copy(0, o[0], 1, o[1], o[2]), INDEX);
        }
    }

    @Says(at = "Promise 29", text = "BAD; NULL (either); CAST: of unlike LANES; INDEX.")
    private static void promise29_INDEX_nBelow0() {
        for (int n : new int[] {-1, -3, LEAST, LEAST + 1}) {
            Bounds.asked("n " + n, BoundsPromises24To29Test::two, x -> x.copy(0, 0, 1, 0, n), INDEX);
            Bounds.asked("n " + n + " from the last on", BoundsPromises24To29Test::two, x -> x.copy(0, 2, 1, 1, n), INDEX);
        }
    }

    @Says(at = "Promise 29", text = "BAD; NULL (either); CAST: of unlike LANES; INDEX.")
    private static void promise29_noneOfThem_upToTheEnd() {
        Bounds.asked("none, from the first", BoundsPromises24To29Test::two, x -> x.copy(0, 0, 1, 0, 0), 0);
        Bounds.asked("none, behind the last of both", BoundsPromises24To29Test::two, x -> x.copy(0, 3, 1, 2, 0), 0);
        Bounds.asked("none, beyond that", BoundsPromises24To29Test::two, x -> x.copy(0, 4, 1, 0, 0), INDEX);
        Bounds.asked("none, beyond that", BoundsPromises24To29Test::two, x -> x.copy(0, 0, 1, 3, 0), INDEX);
        Bounds.asked("none, ahead of the first", BoundsPromises24To29Test::two, x -> x.copy(0, -1, 1, 0, 0), INDEX);
        Bounds.asked("none of a row of none", ROLLING, x -> x.copy(2, 0, 2, 0, 0), 0);
        Bounds.asked("one of a row of none", ROLLING, x -> x.copy(2, 0, 2, 0, 1), INDEX);
    }

    @Says(at = "Promise 29", text = "n items of a SHEET from i on come to another one (or the same) from j on, as if all were"
        + " taken ahead: n.")
    private static void promise29_toTheSame_asIfTakenAhead() {
        for (int lane = 0; lane <= 3; lane++) {
            VillageBall x = Villages.level(4);
            Villages.rowOf(x, 0, lane, 0, 1, 2, 3, 4);
            Bounds.due("down by one", x.copy(0, 0, 0, 1, 4), 4);
            Bounds.dueAll("items", Villages.items(x, 0, lane, 5), 0, 0, 1, 2, 3);
            Villages.rowOf(x, 0, lane, 0, 1, 2, 3, 4);
            Bounds.due("up by one", x.copy(0, 1, 0, 0, 4), 4);
            Bounds.dueAll("items", Villages.items(x, 0, lane, 5), 1, 2, 3, 4, 4);
            Bounds.due("on themselves", x.copy(0, 0, 0, 0, 5), 5);
            Bounds.dueAll("items", Villages.items(x, 0, lane, 5), 1, 2, 3, 4, 4);
        }
    }

    @Says(at = "Promise 29", text = "n items of a SHEET from i on come to another one (or the same) from j on, as if all were"
        + " taken ahead: n.")
    private static void promise29_all24() {
        for (int lane = 0; lane <= 3; lane++) {
            VillageBall x = Villages.level(4);
            int[] want = new int[24];
            x.sheet(0, lane, 24);
            x.sheet(1, lane, 24);
            for (int i = 0; i < 24; i++) {
                want[i] = i % 5;
                x.item(0, lane, i, want[i]);
            }
            Bounds.due("all", x.copy(0, 0, 1, 0, 24), 24);
            Bounds.dueAll("items", Villages.items(x, 1, lane, 24), want);
            x.item(0, lane, 0, 3);
            Bounds.dueAll("they are its own", Villages.items(x, 1, lane, 1), 0);
        }
    }
}
