/** Objects as the tests of the bounds want them: made alike each time that they are asked for. */
final class Villages {
    private Villages() {
    }

    /** In mid-slope: a thing in the ball, some to be undone, an image, letters, rows in three sheets of four. */
    static VillageBall rolling() {
        VillageBall x = Check.ofText("91,92,03,04;l4@0,p9@1,w1@3,g2@2");
        x.seed(77);
        x.go(2, 5);
        x.image();
        x.steps(1);
        x.drift(3);
        x.sheet(0, 2, 3);
        x.item(0, 2, 0, 1);
        x.item(0, 2, 1, 2);
        x.item(0, 2, 2, 3);
        x.sheet(1, 0, 2);
        x.item(1, 0, 0, 4);
        x.item(1, 0, 1, 4);
        x.sheet(2, 3, 0);
        for (char letter : "11,11,1".toCharArray()) {
            x.type(letter);
        }
        return x;
    }

    /** The same at the bottom. */
    static VillageBall resting() {
        VillageBall x = rolling();
        x.steps(24);
        return x;
    }

    /** Eight things that lie, 130 letters. */
    static VillageBall full() {
        VillageBall x = Check.ofText("12,23,34,45;" + Check.cells("p1@1", 8));
        x.go(1, 1);
        for (int k = 0; k < 130; k++) {
            x.type('1');
        }
        return x;
    }

    /** Cells without drops or snow. */
    static VillageBall level(int cells) {
        return Check.ofText(Check.cells("00", cells));
    }

    /** A level slope of ten cells with these things, the ball let go there, one step made. */
    static VillageBall stepped(String things, int great, int fast) {
        VillageBall x = Check.ofText(Check.cells("00", 10) + (things.isEmpty() ? "" : ";" + things));
        x.go(great, fast);
        x.steps(1);
        return x;
    }

    /** A row of ints in sheet 0. */
    static void row(VillageBall x, long... items) {
        rowOf(x, 0, 2, items);
    }

    static void rowOf(VillageBall x, int sheet, int lane, long... items) {
        x.sheet(sheet, lane, items.length);
        for (int i = 0; i < items.length; i++) {
            x.item(sheet, lane, i, items[i]);
        }
    }

    /** The items of a row, if they are 0 .. 4 (else NONE), on a level slope; INDEX ends them. */
    static int[] items(VillageBall x, int sheet, int lane, int n) {
        int[] all = new int[n];
        for (int i = 0; i < n; i++) {
            int least = x.seen(1, sheet, lane, i, 1, 1);
            all[i] = least == 1 ? 1 : least <= 0 ? least : least / 20 + 1;
        }
        return all;
    }

    /** The seed from which the next draw is this one: the factor is odd, so that it can be taken back. */
    static int seedAheadOf(int draw) {
        long mask = 0x7fffffffL;
        long back = 1;
        for (int k = 0; k < 5; k++) {
            back = back * (2 - 1103515245L * back) & mask;
        }
        return (int) ((draw - 12345L) * back & mask);
    }
}
