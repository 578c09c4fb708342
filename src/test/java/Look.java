import java.util.ArrayList;
import java.util.List;

/** All that calls can tell of an object, in a row; the object is used up by it. */
final class Look {
    private final VillageBall x;
    private final List<Integer> told = new ArrayList<>();
    private int cells;
    private int things;

    private Look(VillageBall x) {
        this.x = x;
    }

    static List<Integer> all(VillageBall x) {
        Look look = new Look(x);
        look.slope();
        look.now();
        look.past();
        look.tell(x.restore());
        look.slope();
        look.now();
        look.past();
        look.tell(x.type(' '));
        look.tell(x.village());
        look.slope();
        look.now();
        look.sheets();
        return look.told;
    }

    private void tell(int answer) {
        told.add(answer);
    }

    private void slope() {
        cells = x.count(0);
        things = x.count(1);
        tell(cells);
        tell(things);
        for (int c = 0; c < cells; c++) {
            tell(x.at(c, 0));
        }
        for (int t = 0; t < things; t++) {
            tell(x.of(t, 0));
            tell(x.of(t, 1));
        }
    }

    private void now() {
        for (int what = 2; what <= 8; what++) {
            tell(x.count(what));
        }
        for (int c = 0; c < cells; c++) {
            tell(x.at(c, 1));
        }
        for (int t = 0; t < things; t++) {
            tell(x.of(t, 2));
            tell(x.of(t, 3));
            tell(x.of(t, 4));
        }
        int draw = x.seed(0);
        tell(draw);
        x.seed(draw);
    }

    private void past() {
        int more = x.undo();
        // More than eight would be wrong: it ends there in any case.
        for (int k = 0; k < 9 && more >= 0; k++) {
            tell(more);
            now();
            more = x.undo();
        }
        tell(more);
    }

    /** On a level slope the least speed for a place tells the place: an item of 0 .. 4 can be read. */
    private void sheets() {
        Check.read(x, "00,00,00,00");
        for (int s = 0; s < 4; s++) {
            for (int lane = 0; lane < 4; lane++) {
                row(s, lane);
            }
            tell(x.drop(s));
        }
    }

    private void row(int s, int lane) {
        int answer = 0;
        for (int i = 0; i <= 24 && (answer >= 0 || answer == VillageBall.NONE); i++) {
            answer = x.seen(1, s, lane, i, 1, 1);
            tell(answer);
        }
    }
}
