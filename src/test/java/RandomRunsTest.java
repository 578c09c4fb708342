import java.util.Random;

/** Long runs of calls drawn from fixed seeds, answered by the class and by the model of the tests. */
public final class RandomRunsTest {
    private static final int RUNS = 3000, CALLS = 512;
    private static final int[] ODD = {-1, 0, 1, 2, 24, 25, 99, 100, 130, Integer.MAX_VALUE, Integer.MIN_VALUE,
        Integer.MAX_VALUE - 7, 256, 65536};

    private final Random random;
    private final VillageBall x = new VillageBall();
    private final Model model = new Model();
    private final StringBuilder calls = new StringBuilder();
    private int made;

    private RandomRunsTest(int seed) {
        random = new Random(seed);
    }

    public static void main(String[] args) {
        int wrong = 0;
        for (int seed = 0; seed < RUNS && wrong < 5; seed++) {
            if (!new RandomRunsTest(seed).run()) {
                System.out.println("seed " + seed);
                wrong++;
            }
        }
        System.out.println("RandomRunsTest: " + RUNS + " runs, " + wrong + " wrong");
        if (wrong != 0) {
            System.exit(1);
        }
    }

    private boolean run() {
        try {
            while (made < CALLS) {
                if (random.nextInt(12) == 0) {
                    if (!readsVillage()) {
                        return false;
                    }
                } else if (!isSame(random.nextInt(29), random.nextInt(10) == 0)) {
                    return false;
                }
            }
            return true;
        } catch (RuntimeException e) {
            e.printStackTrace(System.out);
            System.out.println(calls);
            return false;
        }
    }

    private int in(int least, int most, boolean odd) {
        if (odd && random.nextInt(3) == 0) {
            return random.nextBoolean() ? ODD[random.nextInt(ODD.length)] : random.nextBoolean() ? least - 1 : most + 1;
        }
        return least + random.nextInt(most - least + 1);
    }

    private boolean same(String call, int got, int want) {
        made++;
        calls.append(call).append(" = ").append(want).append('\n');
        if (got != want) {
            System.out.println(calls);
            System.out.println("the last one answered " + got + ", due is " + want);
        }
        return got == want;
    }

    private String text() {
        StringBuilder text = new StringBuilder();
        int cells = random.nextInt(20) == 0 ? random.nextInt(27) : 4 + random.nextInt(random.nextInt(3) == 0 ? 21 : 6);
        for (int c = 0; c < cells; c++) {
            text.append(c == 0 ? "" : ",").append(random.nextInt(10)).append(random.nextInt(10));
        }
        int things = random.nextInt(20) == 0 ? random.nextInt(11) : random.nextInt(9);
        for (int t = 0; t < things; t++) {
            int cell = random.nextInt(Math.max(1, cells) + (random.nextInt(30) == 0 ? 3 : 0));
            text.append(t == 0 ? ";" : ",").append("plswg".charAt(random.nextInt(5))).append(random.nextInt(10));
            text.append('@').append(random.nextInt(9) == 0 && cell < 10 ? "0" : "").append(cell);
        }
        while (random.nextInt(3) == 0) {
            text.insert(random.nextInt(text.length() + 1), ' ');
        }
        if (random.nextInt(4) == 0 && text.length() > 0) {
            int place = random.nextInt(text.length());
            char letter = " ,;@plswg0123456789xP~".charAt(random.nextInt(22));
            switch (random.nextInt(4)) {
                case 0 -> text.deleteCharAt(place);
                case 1 -> text.setCharAt(place, letter);
                case 2 -> text.setLength(place);
                default -> text.insert(place, letter);
            }
        }
        return text.toString();
    }

    private boolean readsVillage() {
        String text = text();
        // What an object answers behind its 512th call is free: a village that is not read by then is left out.
        if (made + text.length() + 1 > CALLS) {
            return true;
        }
        for (int k = 0; k < text.length(); k++) {
            char c = text.charAt(k);
            if (!same("type(" + (int) c + ")", x.type(c), model.type(c))) {
                return false;
            }
        }
        return same("village()", x.village(), model.village());
    }

    private boolean isSame(int which, boolean odd) {
        return which < 14 ? isSameDone(which, odd) : isSameForetold(which, odd);
    }

    private boolean isSameDone(int which, boolean odd) {
        int a;
        int b;
        int c;
        switch (which) {
            case 0:
                a = in(0, model.count(0) - 1, odd);
                b = in(0, 1, odd);
                c = in(0, 9, odd);
                return same("cell(" + a + ", " + b + ", " + c + ")", x.cell(a, b, c), model.cell(a, b, c));
            case 1:
                a = in(0, model.count(0) - 1, odd);
                b = in(0, 2, odd);
                return same("at(" + a + ", " + b + ")", x.at(a, b), model.at(a, b));
            case 2:
                a = in(0, 4, odd);
                b = in(0, 9, odd);
                c = in(0, model.count(0) - 1, odd);
                return same("thing(" + a + ", " + b + ", " + c + ")", x.thing(a, b, c), model.thing(a, b, c));
            case 3:
                a = in(0, Math.max(0, model.count(1) - 1), odd);
                b = in(0, 4, odd);
                return same("of(" + a + ", " + b + ")", x.of(a, b), model.of(a, b));
            case 4:
                a = in(32, 126, odd);
                return same("type(" + a + ")", x.type(a), model.type(a))
                    && (made == CALLS || same("village()", x.village(), model.village()));
            case 5:
                a = in(0, 8, odd);
                return same("count(" + a + ")", x.count(a), model.count(a));
            case 6:
                a = in(1, random.nextBoolean() ? 10 : 99, odd);
                b = in(0, random.nextBoolean() ? 20 : 99, odd);
                return same("go(" + a + ", " + b + ")", x.go(a, b), model.go(a, b));
            case 7:
            case 8:
                a = in(1, random.nextBoolean() ? 3 : 24, odd);
                return same("steps(" + a + ")", x.steps(a), model.steps(a));
            case 9:
                a = in(1, random.nextBoolean() ? 3 : 24, odd);
                return same("melt(" + a + ")", x.melt(a), model.melt(a));
            case 10:
                a = in(1, 9, odd);
                return same("snow(" + a + ")", x.snow(a), model.snow(a));
            case 11:
                a = in(1, 40, odd);
                return same("drift(" + a + ")", x.drift(a), model.drift(a));
            case 12:
                return same("undo()", x.undo(), model.undo());
            default:
                a = random.nextInt() & (odd ? -1 : Integer.MAX_VALUE);
                return same("seed(" + a + ")", x.seed(a), model.seed(a));
        }
    }

    private boolean isSameForetold(int which, boolean odd) {
        int a = in(0, Math.max(0, model.count(1) - 1), odd);
        int b = in(0, 1, odd);
        int n;
        switch (which) {
            case 14:
            case 15:
                n = in(0, 4, odd);
                return same("ahead(" + n + ")", x.ahead(n), model.ahead(n));
            case 16:
                n = in(0, 8, odd);
                return same("order(" + n + ")", x.order(n), model.order(n));
            case 17:
                return same("push()", x.push(), model.push());
            case 18:
                return same("bank(" + b + ")", x.bank(b), model.bank(b));
            case 19:
                return same("lay(" + a + ", " + b + ")", x.lay(a, b), model.lay(a, b));
            case 20:
                return same("spare(" + a + ", " + b + ")", x.spare(a, b), model.spare(a, b));
            case 21:
                return random.nextInt(4) != 0 || same("image()", x.image(), model.image());
            case 22:
                return random.nextInt(4) != 0 || same("restore()", x.restore(), model.restore());
            default:
                return isSameOfSheets(which, odd);
        }
    }

    private boolean isSameOfSheets(int which, boolean odd) {
        int g = in(1, random.nextBoolean() ? 9 : 99, odd);
        int s = in(0, 3, odd);
        // Sheets are mostly of the lane of their number, so that not all calls end in CAST.
        int lane = random.nextInt(5) == 0 ? in(0, 3, odd) : s == 3 ? 2 : s;
        int i = in(0, random.nextBoolean() ? 3 : 24, odd);
        int n = in(1, random.nextBoolean() ? 3 : 8, odd);
        int what = in(0, 1, odd);
        long v = random.nextInt(4) == 0 ? random.nextLong() : random.nextInt(26);
        switch (which) {
            case 23:
            case 24:
                return same("seen(" + g + ", " + s + ", " + lane + ", " + i + ", " + n + ", " + what + ")",
                    x.seen(g, s, lane, i, n, what), model.seen(g, s, lane, i, n, what));
            case 25:
                return same("film(" + n + ", " + s + ", " + lane + ", " + i + ")",
                    x.film(n, s, lane, i), model.film(n, s, lane, i));
            case 26:
                n = in(0, 24, odd);
                return random.nextInt(10) == 0 ? same("drop(" + s + ")", x.drop(s), model.drop(s))
                    : same("sheet(" + s + ", " + lane + ", " + n + ")", x.sheet(s, lane, n), model.sheet(s, lane, n));
            case 27:
                return same("item(" + s + ", " + lane + ", " + i + ", " + v + ")",
                    x.item(s, lane, i, v), model.item(s, lane, i, v));
            default:
                int to = random.nextBoolean() ? s : in(0, 3, odd);
                int j = in(0, 20, odd);
                return same("copy(" + s + ", " + i + ", " + to + ", " + j + ", " + n + ")",
                    x.copy(s, i, to, j, n), model.copy(s, i, to, j, n));
        }
    }
}
