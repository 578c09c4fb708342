import java.util.ArrayDeque;
import java.util.ArrayList;
import java.util.Arrays;
import java.util.Deque;
import java.util.List;
import java.util.TreeMap;
import java.util.function.IntUnaryOperator;

/** The document once more, written apart from the class and in another way, to compare answers with. */
final class Model {
    private static final int BAD = -1, NOT = -2, FULL = -3, NONE = -4, NULL = -11, CAST = -12, INDEX = -13, SIZE = -14;

    /** The tree of kinds as the document tells it: what is below a kind changes it. */
    private static class Plain {
        final int heavy;

        Plain(int heavy) {
            this.heavy = heavy;
        }

        boolean passesBy(Ball ball) {
            return false;
        }

        boolean isTaken(Ball ball) {
            return ball.great >= heavy;
        }

        void changes(Ball ball) {
            ball.great = Math.min(999, ball.great + heavy);
        }
    }

    private static class Light extends Plain {
        Light(int heavy) {
            super(heavy);
        }

        @Override
        boolean isTaken(Ball ball) {
            return true;
        }
    }

    private static class Slick extends Plain {
        Slick(int heavy) {
            super(heavy);
        }

        @Override
        boolean passesBy(Ball ball) {
            return ball.fast > 14;
        }
    }

    private static class Warm extends Light {
        Warm(int heavy) {
            super(heavy);
        }

        @Override
        void changes(Ball ball) {
            ball.great -= heavy;
            if (ball.great < 1) {
                ball.great = 1;
            }
        }
    }

    private static class Grudge extends Slick {
        Grudge(int heavy) {
            super(heavy);
        }

        @Override
        void changes(Ball ball) {
            super.changes(ball);
            super.changes(ball);
        }
    }

    private static Plain ofKind(int kind, int heavy) {
        return switch (kind) {
            case 0 -> new Plain(heavy);
            case 1 -> new Light(heavy);
            case 2 -> new Slick(heavy);
            case 3 -> new Warm(heavy);
            default -> new Grudge(heavy);
        };
    }

    /** The ball, snow, the things that lie (by number), that are in the ball, in order; the draw. */
    private static final class Ball {
        int place;
        int great = 1;
        int fast;
        boolean rests = true;
        long draw = 1;
        List<Integer> snow = new ArrayList<>();
        TreeMap<Integer, Integer> lying = new TreeMap<>();
        List<Integer> inside = new ArrayList<>();

        Ball again() {
            Ball b = new Ball();
            b.place = place;
            b.great = great;
            b.fast = fast;
            b.rests = rests;
            b.draw = draw;
            b.snow = new ArrayList<>(snow);
            b.lying = new TreeMap<>(lying);
            b.inside = new ArrayList<>(inside);
            return b;
        }
    }

    private record Image(List<Integer> drops, List<Plain> things, List<Integer> kinds, Ball ball, List<Ball> past) { }

    private List<Integer> drops = new ArrayList<>();
    private List<Plain> things = new ArrayList<>();
    private List<Integer> kinds = new ArrayList<>();
    private Ball ball = new Ball();
    private Deque<Ball> past = new ArrayDeque<>();
    private String tape = "";
    private Image kept;
    private final Object[] sheets = new Object[4];

    Model() {
        for (int c = 0; c < 12; c++) {
            drops.add(3);
            ball.snow.add(2);
        }
    }

    private boolean noCell(int c) {
        return c < 0 || c >= drops.size();
    }

    private static boolean out(int v, int least, int most) {
        return v < least || v > most;
    }

    int cell(int cell, int what, int v) {
        if (noCell(cell) || out(what, 0, 1) || out(v, 0, 9)) {
            return BAD;
        }
        return (what == 0 ? drops : ball.snow).set(cell, v);
    }

    int at(int cell, int what) {
        if (noCell(cell) || out(what, 0, 2)) {
            return BAD;
        }
        if (what == 2) {
            return ball.lying.keySet().stream().filter(t -> ball.lying.get(t) == cell).mapToInt(t -> 1 << t).sum();
        }
        return (what == 0 ? drops : ball.snow).get(cell);
    }

    int thing(int kind, int heavy, int cell) {
        if (out(kind, 0, 4) || out(heavy, 0, 9) || noCell(cell)) {
            return BAD;
        }
        if (things.size() == 8) {
            return FULL;
        }
        past.clear();
        ball.lying.put(things.size(), cell);
        kinds.add(kind);
        things.add(ofKind(kind, heavy));
        return things.size() - 1;
    }

    int of(int thing, int what) {
        if (out(thing, 0, things.size() - 1) || out(what, 0, 4)) {
            return BAD;
        }
        boolean lies = ball.lying.containsKey(thing);
        boolean in = ball.inside.contains(thing);
        return switch (what) {
            case 0 -> kinds.get(thing);
            case 1 -> things.get(thing).heavy;
            case 2 -> lies ? ball.lying.get(thing) : NONE;
            case 3 -> in ? ball.inside.indexOf(thing) : NONE;
            default -> lies || in ? 0 : 1;
        };
    }

    int type(int letter) {
        if (out(letter, 32, 126)) {
            return BAD;
        }
        if (tape.length() == 130) {
            return FULL;
        }
        tape += (char) letter;
        return tape.length();
    }

    /** The places of all letters that are no blanks, with the end behind them. */
    private static int[] places(String text) {
        int[] all = new int[131];
        int n = 0;
        for (int k = 0; k < text.length(); k++) {
            if (text.charAt(k) != ' ') {
                all[n++] = k;
            }
        }
        all[n++] = text.length();
        return Arrays.copyOf(all, n);
    }

    int village() {
        String text = tape;
        tape = "";
        int[] places = places(text);
        String dense = text.replace(" ", "") + "\n";
        List<Integer> newDrops = new ArrayList<>();
        Ball fresh = new Ball();
        List<Plain> newThings = new ArrayList<>();
        List<Integer> newKinds = new ArrayList<>();
        int k = 0;
        String state = "drop";
        int value = 0;
        while (true) {
            char c = dense.charAt(k);
            boolean digit = Character.isDigit(c);
            int fault = -20 - places[k];
            if (state.equals("drop") && digit) {
                newDrops.add(c - '0');
                state = "snow";
            } else if (state.equals("snow") && digit) {
                fresh.snow.add(c - '0');
                state = "behind cell";
            } else if (state.equals("behind cell") && c == ',' && newDrops.size() < 24) {
                state = "drop";
            } else if (state.equals("behind cell") && c == ';' && newDrops.size() >= 4) {
                state = "kind";
            } else if (state.equals("behind cell") && c == '\n' && newDrops.size() >= 4) {
                break;
            } else if (state.equals("kind") && "plswg".indexOf(c) >= 0) {
                newKinds.add("plswg".indexOf(c));
                state = "heavy";
            } else if (state.equals("heavy") && digit) {
                newThings.add(ofKind(newKinds.get(newKinds.size() - 1), c - '0'));
                state = "@";
            } else if (state.equals("@") && c == '@') {
                state = "number";
            } else if (state.equals("number") && digit) {
                value = c - '0';
                boolean glued = k + 1 < places.length && places[k + 1] == places[k] + 1;
                if (glued && Character.isDigit(dense.charAt(k + 1))) {
                    k++;
                    value = 10 * value + dense.charAt(k) - '0';
                }
                if (value >= newDrops.size()) {
                    return fault;
                }
                fresh.lying.put(newThings.size() - 1, value);
                state = "behind thing";
            } else if (state.equals("behind thing") && c == ',' && newThings.size() < 8) {
                state = "kind";
            } else if (state.equals("behind thing") && c == '\n') {
                break;
            } else {
                return fault;
            }
            k++;
        }
        fresh.draw = ball.draw;
        drops = newDrops;
        things = newThings;
        kinds = newKinds;
        ball = fresh;
        past.clear();
        return drops.size();
    }

    int count(int what) {
        return switch (what) {
            case 0 -> drops.size();
            case 1 -> things.size();
            case 2 -> ball.place;
            case 3 -> ball.great;
            case 4 -> ball.fast;
            case 5 -> ball.rests ? 1 : 0;
            case 6 -> set(ball.inside);
            case 7 -> allSnow();
            case 8 -> past.size();
            default -> BAD;
        };
    }

    private static int set(Iterable<Integer> of) {
        int set = 0;
        for (int t : of) {
            set |= 1 << t;
        }
        return set;
    }

    private int allSnow() {
        return ball.snow.stream().mapToInt(Integer::intValue).sum();
    }

    private void known() {
        past.addLast(ball.again());
        if (past.size() > 8) {
            past.removeFirst();
        }
    }

    private static int letGo(Ball b, int g, int f) {
        int back = b.inside.size();
        b.inside.clear();
        b.place = 0;
        b.great = g;
        b.fast = f;
        b.rests = false;
        return back;
    }

    private void step(Ball b, int bank) {
        if (b.rests) {
            return;
        }
        int here = b.place;
        int fast = b.fast + (here == bank ? 0 : drops.get(here)) - b.great / 10;
        b.fast = fast < 0 ? 0 : fast > 99 ? 99 : fast;
        if (here == bank) {
            b.fast = b.fast < 20 ? 0 : b.fast - 20;
        }
        b.great = Math.min(999, b.great + b.snow.set(here, 0));
        for (int t = 0; t < things.size(); t++) {
            Plain thing = things.get(t);
            if (b.lying.getOrDefault(t, -1) != here || thing.passesBy(b)) {
                continue;
            }
            if (thing.isTaken(b)) {
                thing.changes(b);
                b.lying.remove(t);
                b.inside.add(t);
            } else {
                b.fast = Math.max(0, b.fast - thing.heavy);
            }
        }
        b.rests = b.fast == 0;
        if (!b.rests) {
            b.place = Math.min(drops.size(), here + 1 + b.fast / 20);
            b.rests = b.place == drops.size();
        }
    }

    int go(int g, int f) {
        if (out(g, 1, 99) || out(f, 0, 99)) {
            return BAD;
        }
        known();
        return letGo(ball, g, f);
    }

    int steps(int n) {
        if (out(n, 1, 24)) {
            return BAD;
        }
        if (ball.rests) {
            return NOT;
        }
        for (int made = 1; ; made++) {
            known();
            step(ball, -1);
            if (ball.rests || made == n) {
                return made;
            }
        }
    }

    int melt(int n) {
        if (out(n, 1, 24)) {
            return BAD;
        }
        if (!ball.rests) {
            return NOT;
        }
        for (int day = 1; day <= n; day++) {
            known();
            int less = ball.inside.isEmpty()
                ? ball.great / 10 : things.get(ball.inside.remove(ball.inside.size() - 1)).heavy;
            ball.great = Math.max(1, ball.great - less - 1);
        }
        return ball.great;
    }

    int snow(int n) {
        if (out(n, 1, 9)) {
            return BAD;
        }
        known();
        ball.snow.replaceAll(s -> Math.min(9, s + n));
        return allSnow();
    }

    int drift(int n) {
        if (out(n, 1, 40)) {
            return BAD;
        }
        known();
        for (int k = 0; k < n; k++) {
            ball.draw = (ball.draw * 1103515245L + 12345L) % (1L << 31);
            int c = (int) (ball.draw / 65536 % drops.size());
            ball.snow.set(c, Math.min(9, ball.snow.get(c) + 1));
        }
        return allSnow();
    }

    int undo() {
        if (past.isEmpty()) {
            return NONE;
        }
        ball = past.removeLast();
        return past.size();
    }

    int seed(int v) {
        if (v < 0) {
            return BAD;
        }
        int was = (int) ball.draw;
        ball.draw = v;
        return was;
    }

    private Ball atRest(Ball b, int bank) {
        while (!b.rests) {
            step(b, bank);
        }
        return b;
    }

    int ahead(int what) {
        Ball b = ball.again();
        int made = 0;
        int most = b.fast;
        for (; !b.rests; made++) {
            step(b, -1);
            most = Math.max(most, b.fast);
        }
        return switch (what) {
            case 0 -> b.place;
            case 1 -> b.great;
            case 2 -> set(b.inside);
            case 3 -> made;
            case 4 -> most;
            default -> BAD;
        };
    }

    int order(int k) {
        List<Integer> inside = atRest(ball.again(), -1).inside;
        return k < 0 ? BAD : k < inside.size() ? inside.get(k) : NONE;
    }

    int push() {
        if (ball.rests) {
            return NOT;
        }
        for (int fast = ball.fast; fast < 100; fast++) {
            Ball b = ball.again();
            b.fast = fast;
            if (atRest(b, -1).place == drops.size()) {
                return fast - ball.fast;
            }
        }
        return NONE;
    }

    /** The first cell of those with the least value, or that value. */
    private int best(int what, IntUnaryOperator value) {
        int least = Integer.MAX_VALUE;
        int best = -1;
        for (int c = drops.size() - 1; c >= 0; c--) {
            int v = value.applyAsInt(c);
            if (v <= least) {
                least = v;
                best = c;
            }
        }
        return what == 0 ? best : least;
    }

    int bank(int what) {
        return out(what, 0, 1) ? BAD : best(what, c -> atRest(ball.again(), c).place);
    }

    int lay(int thing, int what) {
        if (out(thing, 0, things.size() - 1) || out(what, 0, 1)) {
            return BAD;
        }
        if (!ball.lying.containsKey(thing)) {
            return NOT;
        }
        int found = best(what, c -> {
            Ball b = ball.again();
            b.lying.put(thing, c);
            return -atRest(b, -1).great;
        });
        return what == 0 ? found : -found;
    }

    int spare(int thing, int what) {
        if (out(thing, 0, things.size() - 1) || out(what, 0, 1)) {
            return BAD;
        }
        for (int many = 0; many < 8; many++) {
            for (int set = 0; set < 256; set++) {
                if (Integer.bitCount(set) == many && (set >> thing & 1) == 0 && isSpared(thing, set)) {
                    return what == 0 ? many : set;
                }
            }
        }
        return NONE;
    }

    private boolean isSpared(int thing, int set) {
        Ball b = ball.again();
        for (int t = 0; t < 8; t++) {
            if ((set >> t & 1) == 1 && b.lying.remove(t) == null) {
                return false;
            }
        }
        return !atRest(b, -1).inside.contains(thing);
    }

    int image() {
        List<Ball> balls = new ArrayList<>();
        past.forEach(b -> balls.add(b.again()));
        kept = new Image(List.copyOf(drops), List.copyOf(things), List.copyOf(kinds), ball.again(), balls);
        return 1;
    }

    int restore() {
        if (kept == null) {
            return NONE;
        }
        drops = new ArrayList<>(kept.drops());
        things = new ArrayList<>(kept.things());
        kinds = new ArrayList<>(kept.kinds());
        ball = kept.ball().again();
        past.clear();
        kept.past().forEach(b -> past.addLast(b.again()));
        return 1;
    }

    private static Object newRow(int lane, int n) {
        return switch (lane) {
            case 0 -> new byte[n];
            case 1 -> new short[n];
            case 2 -> new int[n];
            default -> new long[n];
        };
    }

    /** What the machine finds with a row taken as one of a lane; 0 if nothing. */
    private int machine(int sheet, int lane, int i, int n) {
        Object row = sheets[sheet];
        if (row == null) {
            return NULL;
        }
        if (row.getClass() != newRow(lane, 0).getClass()) {
            return CAST;
        }
        return i < 0 || (long) i + n > java.lang.reflect.Array.getLength(row) ? INDEX : 0;
    }

    private void put(int sheet, int i, long v) {
        Object row = sheets[sheet];
        if (row instanceof byte[] b) {
            b[i] = (byte) v;
        } else if (row instanceof short[] s) {
            s[i] = (short) v;
        } else if (row instanceof int[] n) {
            n[i] = (int) v;
        } else if (row instanceof long[] l) {
            l[i] = v;
        }
    }

    int seen(int g, int sheet, int lane, int i, int n, int what) {
        if (out(g, 1, 99) || out(sheet, 0, 3) || out(lane, 0, 3) || out(n, 1, 8) || out(what, 0, 1)) {
            return BAD;
        }
        int found = machine(sheet, lane, i, n);
        if (found != 0) {
            return found;
        }
        List<Integer> speeds = new ArrayList<>();
        for (int fast = 0; fast < 100; fast++) {
            Ball b = ball.again();
            letGo(b, g, fast);
            boolean so = true;
            for (int k = 0; k < n; k++) {
                step(b, -1);
                so &= java.lang.reflect.Array.getLong(sheets[sheet], i + k) == b.place;
            }
            if (so) {
                speeds.add(fast);
            }
        }
        return what == 0 ? speeds.size() : speeds.isEmpty() ? NONE : speeds.get(0);
    }

    int film(int n, int sheet, int lane, int i) {
        if (out(n, 1, 24) || out(sheet, 0, 3) || out(lane, 0, 3)) {
            return BAD;
        }
        int found = machine(sheet, lane, i, n);
        if (found != 0) {
            return found;
        }
        Ball b = ball.again();
        for (int k = 0; k < n; k++) {
            step(b, -1);
            put(sheet, i + k, b.place);
        }
        return n;
    }

    int sheet(int sheet, int lane, int n) {
        if (out(sheet, 0, 3) || out(lane, 0, 3) || n > 24) {
            return BAD;
        }
        if (n < 0) {
            return SIZE;
        }
        sheets[sheet] = newRow(lane, n);
        return n;
    }

    int drop(int sheet) {
        if (out(sheet, 0, 3)) {
            return BAD;
        }
        if (sheets[sheet] == null) {
            return NULL;
        }
        int had = java.lang.reflect.Array.getLength(sheets[sheet]);
        sheets[sheet] = null;
        return had;
    }

    int item(int sheet, int lane, int i, long v) {
        if (out(sheet, 0, 3) || out(lane, 0, 3)) {
            return BAD;
        }
        int found = machine(sheet, lane, i, 1);
        if (found == 0) {
            put(sheet, i, v);
        }
        return found == 0 ? 1 : found;
    }

    int copy(int from, int i, int to, int j, int n) {
        if (out(from, 0, 3) || out(to, 0, 3)) {
            return BAD;
        }
        // Here the machine may speak for itself: it is what the answers are named after.
        try {
            System.arraycopy(sheets[from], i, sheets[to], j, n);
        } catch (NullPointerException e) {
            return NULL;
        } catch (ArrayStoreException e) {
            return CAST;
        } catch (IndexOutOfBoundsException e) {
            return INDEX;
        }
        return n;
    }
}
