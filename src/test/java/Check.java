/** Counts the calls whose answer is not the one that is due. */
final class Check {
    private final String test;
    private int promise;
    private int made;
    private int wrong;

    Check(String test) {
        this.test = test;
    }

    void promise(int number) {
        promise = number;
    }

    void due(String call, long got, long want) {
        made++;
        if (got != want) {
            wrong++;
            System.out.println("promise " + promise + ": " + call + " answered " + got + ", due is " + want);
        }
    }

    /** Due answers of at, of or count for what = 0, 1, .. */
    void dueAll(String call, int[] got, int... want) {
        for (int k = 0; k < want.length; k++) {
            due(call + " [" + k + "]", got[k], want[k]);
        }
    }

    void end() {
        System.out.println(test + ": " + made + " answers, " + wrong + " not as due");
        if (wrong != 0) {
            System.exit(1);
        }
    }

    static int read(VillageBall x, String text) {
        for (int k = 0; k < text.length(); k++) {
            x.type(text.charAt(k));
        }
        return x.village();
    }

    static VillageBall ofText(String text) {
        VillageBall x = new VillageBall();
        int cells = read(x, text);
        if (cells < 4) {
            throw new IllegalArgumentException("no village: " + text + " " + cells);
        }
        return x;
    }

    static String cells(String cell, int n) {
        return String.join(",", java.util.Collections.nCopies(n, cell));
    }

    static int[] counts(VillageBall x) {
        int[] all = new int[9];
        for (int what = 0; what < all.length; what++) {
            all[what] = x.count(what);
        }
        return all;
    }

    static int[] ofThing(VillageBall x, int thing) {
        int[] all = new int[5];
        for (int what = 0; what < all.length; what++) {
            all[what] = x.of(thing, what);
        }
        return all;
    }

    static int[] ahead(VillageBall x) {
        int[] all = new int[5];
        for (int what = 0; what < all.length; what++) {
            all[what] = x.ahead(what);
        }
        return all;
    }

    static int[] snows(VillageBall x) {
        int[] all = new int[x.count(0)];
        for (int c = 0; c < all.length; c++) {
            all[c] = x.at(c, 1);
        }
        return all;
    }
}
