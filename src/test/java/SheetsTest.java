/** Promises 24 to 29: how fast it was let go, by where it was seen; films; sheets. */
public final class SheetsTest {
    private static final int BAD = -1, NONE = -4, NULL = -11, CAST = -12, INDEX = -13, SIZE = -14;
    private static final int MOST = Integer.MAX_VALUE, LEAST = Integer.MIN_VALUE;
    private static final Check check = new Check("SheetsTest");

    public static void main(String[] args) {
        seen();
        seenOnTheSlopeAsItIs();
        seenRefuses();
        film();
        filmRefuses();
        sheet();
        drop();
        item();
        itemsAreCut();
        copy();
        copyRefuses();
        check.end();
    }

    /** Four cells without drops: the first place tells the speed, so that an item can be read. */
    private static VillageBall level() {
        return Check.ofText("00,00,00,00");
    }

    /** The item, if it is 0 .. 4; else NONE. */
    private static int read(VillageBall x, int sheet, int lane, int i) {
        int least = x.seen(1, sheet, lane, i, 1, 1);
        return least == 1 ? 1 : least <= 0 ? least : least / 20 + 1;
    }

    private static void row(VillageBall x, int sheet, int lane, long... items) {
        check.due("sheet", x.sheet(sheet, lane, items.length), items.length);
        for (int i = 0; i < items.length; i++) {
            check.due("item", x.item(sheet, lane, i, items[i]), 1);
        }
    }

    private static void dueRow(VillageBall x, int sheet, int lane, int... want) {
        for (int i = 0; i < want.length; i++) {
            check.due("item " + i + " of " + sheet, read(x, sheet, lane, i), want[i]);
        }
        check.due("no item " + want.length, read(x, sheet, lane, want.length), INDEX);
    }

    private static void dueSeen(VillageBall x, int g, int i, int n, int many, int least) {
        check.due("seen how many", x.seen(g, 0, 2, i, n, 0), many);
        check.due("seen the least", x.seen(g, 0, 2, i, n, 1), least);
    }

    private static void seen() {
        check.promise(24);
        VillageBall x = level();
        row(x, 0, 2, 0, 0, 1, 2, 3, 4, 4, 4, 4, 4, 2, 4, 5, -1);
        dueSeen(x, 1, 0, 1, 1, 0);
        dueSeen(x, 1, 0, 2, 1, 0);
        dueSeen(x, 1, 0, 3, 0, NONE);
        dueSeen(x, 1, 2, 1, 19, 1);
        dueSeen(x, 1, 2, 4, 19, 1);
        dueSeen(x, 1, 2, 8, 19, 1);
        dueSeen(x, 1, 3, 1, 20, 20);
        dueSeen(x, 1, 3, 2, 0, NONE);
        dueSeen(x, 1, 4, 1, 20, 40);
        dueSeen(x, 1, 5, 5, 40, 60);
        dueSeen(x, 1, 10, 2, 20, 20);
        dueSeen(x, 1, 12, 1, 0, NONE);
        dueSeen(x, 1, 13, 1, 0, NONE);
        dueSeen(x, 99, 0, 1, 10, 0);
        dueSeen(x, 99, 2, 1, 19, 10);
        dueSeen(x, 99, 5, 1, 31, 69);
        check.dueAll("nothing is changed", Check.counts(x), 4, 0, 0, 1, 0, 1, 0, 0, 0);
    }

    private static void seenOnTheSlopeAsItIs() {
        check.promise(24);
        VillageBall x = Check.ofText("00,00,00,00,00;l8@0,p9@1,p9@3");
        row(x, 0, 2, 1, 1, 2);
        dueSeen(x, 1, 0, 2, 0, NONE);
        dueSeen(x, 1, 1, 2, 19, 1);
        x.go(5, 0);
        x.steps(1);
        check.due("0 is in it", x.count(6), 1);
        dueSeen(x, 1, 0, 2, 9, 1);
        dueSeen(x, 1, 1, 2, 10, 10);
        check.due("0 is in it still", x.count(6), 1);
        check.due("it rests still", x.count(5), 1);
        x.cell(0, 1, 8);
        dueSeen(x, 1, 1, 2, 19, 1);
    }

    private static void seenRefuses() {
        check.promise(24);
        VillageBall x = level();
        x.sheet(0, 2, 5);
        int[][] bad = {{0, 0, 2, 0, 1, 0}, {100, 0, 2, 0, 1, 0}, {1, -1, 2, 0, 1, 0}, {1, 4, 2, 0, 1, 0},
            {1, 0, -1, 0, 1, 0}, {1, 0, 4, 0, 1, 0}, {1, 0, 2, 0, 0, 0}, {1, 0, 2, 0, 9, 0},
            {1, 0, 2, 0, 1, -1}, {1, 0, 2, 0, 1, 2}, {1, 1, 2, 0, 9, 0}, {1, 0, 3, 0, 1, 2},
            {1, 0, 2, -1, 1, 2}, {LEAST, 0, 2, 0, 1, 0}, {1, 0, 2, 0, MOST, 0}};
        for (int[] b : bad) {
            check.due("wrong seen", x.seen(b[0], b[1], b[2], b[3], b[4], b[5]), BAD);
        }
        check.due("NULL ahead of INDEX", x.seen(1, 1, 2, -1, 1, 0), NULL);
        check.due("CAST ahead of INDEX", x.seen(1, 0, 3, -1, 1, 0), CAST);
        check.due("from -1", x.seen(1, 0, 2, -1, 1, 0), INDEX);
        check.due("from 5", x.seen(1, 0, 2, 5, 1, 0), INDEX);
        check.due("1 too far", x.seen(1, 0, 2, 4, 2, 0), INDEX);
        check.due("far away", x.seen(1, 0, 2, MOST, 8, 0), INDEX);
        check.due("far away", x.seen(1, 0, 2, LEAST, 8, 0), INDEX);
        check.due("6 of 5", x.seen(1, 0, 2, 0, 6, 0), INDEX);
        check.due("to the end", x.seen(1, 0, 2, 0, 5, 0), 1);
    }

    private static void film() {
        check.promise(25);
        for (int lane = 0; lane < 4; lane++) {
            VillageBall x = Check.ofText("00,00,00,00;p9@2");
            x.go(1, 9);
            row(x, 3, lane, 4, 4, 4, 4, 4, 4);
            check.due("film", x.film(4, 3, lane, 1), 4);
            check.dueAll("nothing is changed", Check.counts(x), 4, 1, 0, 1, 9, 0, 0, 0, 1);
            Check.read(x, "00,00,00,00");
            dueRow(x, 3, lane, 4, 1, 2, 2, 2, 4);
            x.sheet(3, lane, 24);
            check.due("at rest", x.film(24, 3, lane, 0), 24);
            dueRow(x, 3, lane, new int[24]);
            x.go(1, 39);
            check.due("to the bottom", x.film(24, 3, lane, 0), 24);
            check.due("first", read(x, 3, lane, 0), 2);
            check.due("second", read(x, 3, lane, 1), 4);
            check.due("last", read(x, 3, lane, 23), 4);
            x.steps(1);
            check.due("from now on", x.film(1, 3, lane, 23), 1);
            check.due("last", read(x, 3, lane, 23), 4);
        }
    }

    private static void filmRefuses() {
        check.promise(25);
        VillageBall x = level();
        row(x, 0, 1, 3, 3, 3, 3);
        int[][] bad = {{0, 0, 1, 0}, {25, 0, 1, 0}, {1, -1, 1, 0}, {1, 4, 1, 0}, {1, 0, -1, 0}, {1, 0, 4, 0},
            {25, 2, 0, 0}, {MOST, 0, 1, 0}, {LEAST, 0, 1, 0}};
        for (int[] b : bad) {
            check.due("wrong film", x.film(b[0], b[1], b[2], b[3]), BAD);
        }
        check.due("NULL ahead of INDEX", x.film(1, 1, 1, -1), NULL);
        check.due("CAST ahead of INDEX", x.film(1, 0, 2, -1), CAST);
        check.due("from -1", x.film(1, 0, 1, -1), INDEX);
        check.due("from 4", x.film(1, 0, 1, 4), INDEX);
        check.due("1 too far", x.film(3, 0, 1, 2), INDEX);
        check.due("far away", x.film(24, 0, 1, MOST), INDEX);
        check.due("far away", x.film(24, 0, 1, LEAST), INDEX);
        dueRow(x, 0, 1, 3, 3, 3, 3);
        check.due("to the end", x.film(2, 0, 1, 2), 2);
        dueRow(x, 0, 1, 3, 3, 0, 0);
    }

    private static void sheet() {
        check.promise(26);
        VillageBall x = level();
        int[][] bad = {{-1, 0, 1}, {4, 0, 1}, {0, -1, 1}, {0, 4, 1}, {0, 0, 25}, {4, 0, -1}, {0, 4, -1},
            {0, 0, MOST}, {LEAST, 0, 0}};
        for (int[] b : bad) {
            check.due("wrong sheet", x.sheet(b[0], b[1], b[2]), BAD);
        }
        check.due("-1", x.sheet(0, 0, -1), SIZE);
        check.due("far below", x.sheet(3, 3, LEAST), SIZE);
        check.due("nothing is there", x.drop(0), NULL);
        for (int s = 0; s < 4; s++) {
            row(x, s, s, 1, 2, 3);
        }
        check.due("what is refused", x.sheet(0, 1, -1), SIZE);
        check.due("what is refused", x.sheet(0, 1, 25), BAD);
        dueRow(x, 0, 0, 1, 2, 3);
        check.due("a new row", x.sheet(0, 1, 4), 4);
        dueRow(x, 0, 1, 0, 0, 0, 0);
        check.due("the old lane is gone", read(x, 0, 0, 0), CAST);
        for (int s = 1; s < 4; s++) {
            dueRow(x, s, s, 1, 2, 3);
        }
        check.due("none", x.sheet(0, 3, 0), 0);
        check.due("it has no item", read(x, 0, 3, 0), INDEX);
        check.due("24", x.sheet(0, 3, 24), 24);
        dueRow(x, 0, 3, new int[24]);
    }

    private static void drop() {
        check.promise(27);
        VillageBall x = level();
        check.due("-1", x.drop(-1), BAD);
        check.due("4", x.drop(4), BAD);
        check.due("nothing", x.drop(0), NULL);
        x.sheet(0, 0, 24);
        x.sheet(1, 1, 0);
        check.due("24", x.drop(0), 24);
        check.due("nothing then", x.drop(0), NULL);
        check.due("nothing then", x.item(0, 0, 0, 0), NULL);
        check.due("no items, but a row", x.drop(1), 0);
        check.due("nothing then", x.drop(1), NULL);
        x.sheet(0, 0, 2);
        check.due("2", x.drop(0), 2);
    }

    private static void item() {
        check.promise(28);
        VillageBall x = level();
        for (int lane = 0; lane < 4; lane++) {
            row(x, 1, lane, 3, 2, 1);
            dueRow(x, 1, lane, 3, 2, 1);
            check.due("item", x.item(1, lane, 1, 4), 1);
            dueRow(x, 1, lane, 3, 4, 1);
            int[][] bad = {{-1, lane, 0}, {4, lane, 0}, {1, -1, 0}, {1, 4, 0}, {4, lane, -1}};
            for (int[] b : bad) {
                check.due("wrong item", x.item(b[0], b[1], b[2], 1), BAD);
            }
            check.due("NULL ahead of INDEX", x.item(2, lane, -1, 1), NULL);
            check.due("CAST ahead of INDEX", x.item(1, (lane + 1) % 4, -1, 1), CAST);
            check.due("-1", x.item(1, lane, -1, 1), INDEX);
            check.due("3", x.item(1, lane, 3, 1), INDEX);
            check.due("far away", x.item(1, lane, MOST, 1), INDEX);
            check.due("far away", x.item(1, lane, LEAST, 1), INDEX);
            dueRow(x, 1, lane, 3, 4, 1);
        }
    }

    private static void itemsAreCut() {
        check.promise(28);
        VillageBall x = level();
        long[] above = {1L << 8, 1L << 16, 1L << 32};
        for (int lane = 0; lane < 4; lane++) {
            x.sheet(0, lane, 1);
            for (int bits = 0; bits < 3; bits++) {
                x.item(0, lane, 0, above[bits] + 3);
                check.due("lane " + lane + " cut", read(x, 0, lane, 0), bits >= lane ? 3 : NONE);
                x.item(0, lane, 0, 3 - above[bits]);
                check.due("lane " + lane + " cut", read(x, 0, lane, 0), bits >= lane ? 3 : NONE);
                x.item(0, lane, 0, above[bits] / 2 + 3);
                check.due("lane " + lane + " kept", read(x, 0, lane, 0), bits > lane ? 3 : NONE);
            }
        }
    }

    private static void copy() {
        check.promise(29);
        VillageBall x = level();
        for (int lane = 0; lane < 4; lane++) {
            row(x, 0, lane, 0, 1, 2, 3, 4);
            row(x, 1, lane, 4, 4, 4);
            check.due("to another", x.copy(0, 1, 1, 0, 3), 3);
            dueRow(x, 1, lane, 1, 2, 3);
            dueRow(x, 0, lane, 0, 1, 2, 3, 4);
            check.due("one", x.copy(0, 4, 1, 2, 1), 1);
            dueRow(x, 1, lane, 1, 2, 4);
            check.due("none", x.copy(0, 5, 1, 3, 0), 0);
            check.due("down", x.copy(0, 0, 0, 1, 4), 4);
            dueRow(x, 0, lane, 0, 0, 1, 2, 3);
            check.due("up", x.copy(0, 2, 0, 0, 3), 3);
            dueRow(x, 0, lane, 1, 2, 3, 2, 3);
            check.due("all on itself", x.copy(0, 0, 0, 0, 5), 5);
            dueRow(x, 0, lane, 1, 2, 3, 2, 3);
        }
    }

    private static void copyRefuses() {
        check.promise(29);
        VillageBall x = level();
        row(x, 0, 2, 0, 1, 2);
        row(x, 1, 2, 3, 4);
        row(x, 2, 3, 3, 4);
        int[][] bad = {{-1, 0, 0, 0, 1}, {4, 0, 0, 0, 1}, {0, 0, -1, 0, 1}, {0, 0, 4, 0, 1}, {4, 0, 3, 0, 1},
            {3, 0, 4, 0, -1}};
        for (int[] b : bad) {
            check.due("wrong copy", x.copy(b[0], b[1], b[2], b[3], b[4]), BAD);
        }
        check.due("from nothing", x.copy(3, 0, 0, 0, 1), NULL);
        check.due("to nothing", x.copy(0, 0, 3, 0, -1), NULL);
        check.due("nothing to nothing", x.copy(3, 0, 3, 0, 0), NULL);
        check.due("unlike lanes", x.copy(0, 0, 2, 0, 1), CAST);
        check.due("CAST ahead of INDEX", x.copy(2, -1, 0, 0, 1), CAST);
        check.due("unlike lanes, none", x.copy(0, 0, 2, 0, 0), CAST);
        int[][] index = {{0, -1, 1, 0, 1}, {0, 0, 1, -1, 1}, {0, 0, 1, 0, -1}, {0, 3, 1, 0, 1}, {0, 0, 1, 2, 1},
            {0, 2, 1, 0, 2}, {0, 0, 1, 1, 2}, {0, 4, 1, 0, 0}, {0, 0, 1, 3, 0}, {0, MOST, 1, 0, MOST},
            {0, 1, 1, MOST, MOST}, {0, LEAST, 1, 0, LEAST}, {0, 1, 1, 1, MOST}, {0, 0, 1, 0, LEAST}};
        for (int[] w : index) {
            check.due("copy beyond", x.copy(w[0], w[1], w[2], w[3], w[4]), INDEX);
        }
        dueRow(x, 0, 2, 0, 1, 2);
        dueRow(x, 1, 2, 3, 4);
    }
}
