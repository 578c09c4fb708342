/**
 * A snowball that rolls down the slope of a village, takes up what lies there and gives it back
 * in spring. The document of the project says what every call answers, as promises 1 to 29.
 */
public final class VillageBall {
    public static final int BAD = -1, NOT = -2, FULL = -3, NONE = -4, NULL = -11, CAST = -12, INDEX = -13, SIZE = -14;

    private static final int FINE = 0;
    private static final int FIRST_FAULT = -20;

    private static final int LEAST_CELLS = 4, MOST_CELLS = 24, CELLS_AT_FIRST = 12;
    private static final int DROP_AT_FIRST = 3, SNOW_AT_FIRST = 2;
    private static final int MOST_DIGIT = 9;
    private static final int MOST_THINGS = 8;
    private static final int PLAIN = 0, LIGHT = 1, SLICK = 2, WARM = 3, GRUDGE = 4;
    private static final String KIND_LETTERS = "plswg";

    private static final int IN_BALL = -1, IS_BACK = -2;
    private static final int LEAST_GREAT = 1, MOST_GREAT = 999, MOST_FAST = 99;
    private static final int MOST_LET_GO_GREAT = 99;
    private static final int SLICK_FROM = 15, FAST_PER_CELL = 20;
    private static final int NO_BANK = -1, BANK_SLOWS = 20;

    private static final int MOST_KNOWN = 8;
    private static final int MOST_STEPS = 24, MOST_DAYS = 24, MOST_FALL = 9, MOST_DRIFT = 40;
    private static final int DRAW_AT_FIRST = 1, DRAW_TIMES = 1103515245, DRAW_MORE = 12345;
    private static final int DRAW_BITS = 0x7fffffff, DRAW_CUT = 65536;

    private static final int MOST_LETTERS = 130, FIRST_LETTER = 32, LAST_LETTER = 126;
    private static final char BLANK = ' ', END = 0;

    private static final int SHEETS = 4, LANES = 4, MOST_ITEMS = 24, MOST_SEEN = 8;
    private static final int NO_LANE = -1, BYTES = 0, SHORTS = 1, INTS = 2;

    private final World now = new World();
    private final World kept = new World();
    private boolean hasImage;
    private final Trial trial = new Trial();
    private final VillageReader reader = new VillageReader();
    private final Sheet[] sheets = new Sheet[SHEETS];

    public VillageBall() {
        for (int s = 0; s < SHEETS; s++) {
            sheets[s] = new Sheet();
        }
    }

    // ---- 1 the slope, things

    public int cell(int cell, int what, int v) {
        if (!now.village.hasCell(cell) || !isIn(what, 0, 1) || !isIn(v, 0, MOST_DIGIT)) {
            return BAD;
        }
        int[] row = what == 0 ? now.village.drops : now.scene.snows;
        int was = row[cell];
        row[cell] = v;
        return was;
    }

    public int at(int cell, int what) {
        if (!now.village.hasCell(cell)) {
            return BAD;
        }
        switch (what) {
            case 0: return now.village.drops[cell];
            case 1: return now.scene.snows[cell];
            case 2: return now.scene.thingsWhere(now.village, cell);
            default: return BAD;
        }
    }

    public int thing(int kind, int heavy, int cell) {
        if (!isIn(kind, PLAIN, GRUDGE) || !isIn(heavy, 0, MOST_DIGIT) || !now.village.hasCell(cell)) {
            return BAD;
        }
        int number = now.village.things;
        if (!now.village.addThing(kind, heavy)) {
            return FULL;
        }
        now.scene.putAt(number, cell);
        now.past.forget();
        return number;
    }

    public int of(int thing, int what) {
        if (!now.village.hasThing(thing)) {
            return BAD;
        }
        int where = now.scene.wheres[thing];
        switch (what) {
            case 0: return now.village.kinds[thing];
            case 1: return now.village.heavies[thing];
            case 2: return where >= 0 ? where : NONE;
            case 3: return now.scene.placeInOrder(thing);
            case 4: return where == IS_BACK ? 1 : 0;
            default: return BAD;
        }
    }

    public int type(int letter) {
        if (!isIn(letter, FIRST_LETTER, LAST_LETTER)) {
            return BAD;
        }
        return reader.tape.add((char) letter) ? reader.tape.length : FULL;
    }

    public int village() {
        boolean isVillage = reader.readVillage();
        int place = reader.tape.place;
        reader.tape.clear();
        if (!isVillage) {
            return FIRST_FAULT - place;
        }
        // The text says nothing of the draw, so that the old one goes over into the new scene.
        reader.scene.draw = now.scene.draw;
        now.village.become(reader.village);
        now.scene.become(reader.scene);
        now.past.forget();
        return now.village.cells;
    }

    public int count(int what) {
        Scene scene = now.scene;
        switch (what) {
            case 0: return now.village.cells;
            case 1: return now.village.things;
            case 2: return scene.place;
            case 3: return scene.great;
            case 4: return scene.fast;
            case 5: return scene.rests ? 1 : 0;
            case 6: return scene.thingsWhere(now.village, IN_BALL);
            case 7: return scene.snowOfAll(now.village);
            case 8: return now.past.known;
            default: return BAD;
        }
    }

    // ---- what is done

    public int go(int g, int f) {
        if (!isIn(g, LEAST_GREAT, MOST_LET_GO_GREAT) || !isIn(f, 0, MOST_FAST)) {
            return BAD;
        }
        now.past.remember(now.scene);
        return now.scene.letGo(g, f);
    }

    public int steps(int n) {
        if (!isIn(n, 1, MOST_STEPS)) {
            return BAD;
        }
        if (now.scene.rests) {
            return NOT;
        }
        int made = 0;
        while (made < n && !now.scene.rests) {
            now.past.remember(now.scene);
            now.scene.step(now.village, NO_BANK);
            made++;
        }
        return made;
    }

    public int melt(int n) {
        if (!isIn(n, 1, MOST_DAYS)) {
            return BAD;
        }
        if (!now.scene.rests) {
            return NOT;
        }
        for (int day = 0; day < n; day++) {
            now.past.remember(now.scene);
            now.scene.meltADay(now.village);
        }
        return now.scene.great;
    }

    public int snow(int n) {
        if (!isIn(n, 1, MOST_FALL)) {
            return BAD;
        }
        now.past.remember(now.scene);
        for (int c = 0; c < now.village.cells; c++) {
            now.scene.snowFallsAt(c, n);
        }
        return now.scene.snowOfAll(now.village);
    }

    public int drift(int n) {
        if (!isIn(n, 1, MOST_DRIFT)) {
            return BAD;
        }
        now.past.remember(now.scene);
        for (int k = 0; k < n; k++) {
            now.scene.driftOnce(now.village);
        }
        return now.scene.snowOfAll(now.village);
    }

    public int undo() {
        if (now.past.known == 0) {
            return NONE;
        }
        now.past.bringBack(now.scene);
        return now.past.known;
    }

    public int seed(int v) {
        if (v < 0) {
            return BAD;
        }
        int was = now.scene.draw;
        now.scene.draw = v;
        return was;
    }

    // ---- 2 foretold

    public int ahead(int what) {
        if (!isIn(what, 0, 4)) {
            return BAD;
        }
        trial.begin(now.scene);
        trial.rollToRest(now.village, NO_BANK);
        switch (what) {
            case 0: return trial.scene.place;
            case 1: return trial.scene.great;
            case 2: return trial.scene.thingsWhere(now.village, IN_BALL);
            case 3: return trial.made;
            default: return trial.fastest;
        }
    }

    public int order(int k) {
        if (k < 0) {
            return BAD;
        }
        trial.begin(now.scene);
        trial.rollToRest(now.village, NO_BANK);
        return trial.scene.takenUpAs(k);
    }

    public int push() {
        if (now.scene.rests) {
            return NOT;
        }
        for (int more = 0; more <= MOST_FAST - now.scene.fast; more++) {
            trial.begin(now.scene);
            trial.scene.fast += more;
            trial.rollToRest(now.village, NO_BANK);
            if (trial.scene.place == now.village.cells) {
                return more;
            }
        }
        return NONE;
    }

    public int bank(int what) {
        if (!isIn(what, 0, 1)) {
            return BAD;
        }
        int best = NONE;
        int soonest = now.village.cells + 1;
        for (int c = 0; c < now.village.cells; c++) {
            trial.begin(now.scene);
            trial.rollToRest(now.village, c);
            if (trial.scene.place < soonest) {
                soonest = trial.scene.place;
                best = c;
            }
        }
        return what == 0 ? best : soonest;
    }

    public int lay(int thing, int what) {
        if (!now.village.hasThing(thing) || !isIn(what, 0, 1)) {
            return BAD;
        }
        if (now.scene.wheres[thing] < 0) {
            return NOT;
        }
        int best = NONE;
        int greatest = 0;
        for (int c = 0; c < now.village.cells; c++) {
            trial.begin(now.scene);
            trial.scene.putAt(thing, c);
            trial.rollToRest(now.village, NO_BANK);
            if (trial.scene.great > greatest) {
                greatest = trial.scene.great;
                best = c;
            }
        }
        return what == 0 ? best : greatest;
    }

    public int spare(int thing, int what) {
        if (!now.village.hasThing(thing) || !isIn(what, 0, 1)) {
            return BAD;
        }
        int others = now.scene.thingsThatLie(now.village) & ~(1 << thing);
        int best = NONE;
        int fewest = MOST_THINGS + 1;
        // Sets are tried from the least on, so that only fewer things are better than what is found.
        for (int set = 0; set < 1 << MOST_THINGS; set++) {
            boolean canBeTaken = (set & ~others) == 0;
            if (canBeTaken && Integer.bitCount(set) < fewest && isMissedWithout(thing, set)) {
                fewest = Integer.bitCount(set);
                best = set;
            }
        }
        return what == 1 || best == NONE ? best : fewest;
    }

    public int image() {
        kept.become(now);
        hasImage = true;
        return 1;
    }

    public int restore() {
        if (!hasImage) {
            return NONE;
        }
        now.become(kept);
        return 1;
    }

    // ---- 3 sheets

    public int seen(int g, int sheet, int lane, int i, int n, int what) {
        if (!isIn(g, LEAST_GREAT, MOST_LET_GO_GREAT) || !isSheetAndLane(sheet, lane)
                || !isIn(n, 1, MOST_SEEN) || !isIn(what, 0, 1)) {
            return BAD;
        }
        Sheet row = sheets[sheet];
        int refused = row.refusal(lane, i, n);
        if (refused != FINE) {
            return refused;
        }
        int many = 0;
        int least = NONE;
        for (int fast = MOST_FAST; fast >= 0; fast--) {
            if (wouldBeSeen(g, fast, row, i, n)) {
                many++;
                least = fast;
            }
        }
        return what == 0 ? many : least;
    }

    public int film(int n, int sheet, int lane, int i) {
        if (!isIn(n, 1, MOST_STEPS) || !isSheetAndLane(sheet, lane)) {
            return BAD;
        }
        Sheet row = sheets[sheet];
        int refused = row.refusal(lane, i, n);
        if (refused != FINE) {
            return refused;
        }
        trial.begin(now.scene);
        for (int k = 0; k < n; k++) {
            trial.scene.step(now.village, NO_BANK);
            row.put(i + k, trial.scene.place);
        }
        return n;
    }

    public int sheet(int sheet, int lane, int n) {
        if (!isSheetAndLane(sheet, lane) || n > MOST_ITEMS) {
            return BAD;
        }
        if (n < 0) {
            return SIZE;
        }
        sheets[sheet].holdNewRow(lane, n);
        return n;
    }

    public int drop(int sheet) {
        if (!isIn(sheet, 0, SHEETS - 1)) {
            return BAD;
        }
        Sheet row = sheets[sheet];
        int had = row.size;
        if (row.lane == NO_LANE) {
            return NULL;
        }
        row.holdNothing();
        return had;
    }

    public int item(int sheet, int lane, int i, long v) {
        if (!isSheetAndLane(sheet, lane)) {
            return BAD;
        }
        Sheet row = sheets[sheet];
        int refused = row.refusal(lane, i, 1);
        if (refused != FINE) {
            return refused;
        }
        row.put(i, v);
        return 1;
    }

    public int copy(int from, int i, int to, int j, int n) {
        if (!isIn(from, 0, SHEETS - 1) || !isIn(to, 0, SHEETS - 1)) {
            return BAD;
        }
        Sheet source = sheets[from];
        Sheet target = sheets[to];
        if (source.lane == NO_LANE || target.lane == NO_LANE) {
            return NULL;
        }
        if (source.lane != target.lane) {
            return CAST;
        }
        if (!source.hasItems(i, n) || !target.hasItems(j, n)) {
            return INDEX;
        }
        System.arraycopy(source.items, i, target.items, j, n);
        return n;
    }

    // ---- what the calls share

    private static boolean isIn(int v, int least, int most) {
        return v >= least && v <= most;
    }

    private static boolean isSheetAndLane(int sheet, int lane) {
        return isIn(sheet, 0, SHEETS - 1) && isIn(lane, 0, LANES - 1);
    }

    private boolean isMissedWithout(int thing, int set) {
        trial.begin(now.scene);
        for (int t = 0; t < MOST_THINGS; t++) {
            if ((set >> t & 1) != 0) {
                trial.scene.putAt(t, IS_BACK);
            }
        }
        trial.rollToRest(now.village, NO_BANK);
        return (trial.scene.thingsWhere(now.village, IN_BALL) >> thing & 1) == 0;
    }

    private boolean wouldBeSeen(int g, int fast, Sheet row, int i, int n) {
        trial.begin(now.scene);
        trial.scene.letGo(g, fast);
        for (int k = 0; k < n; k++) {
            trial.scene.step(now.village, NO_BANK);
            if (!row.holds(i + k, trial.scene.place)) {
                return false;
            }
        }
        return true;
    }

    /** What is told of a slope and of its things; rolling and undoing leave it as it is. */
    private static final class Village {
        final int[] drops = new int[MOST_CELLS];
        final int[] kinds = new int[MOST_THINGS];
        final int[] heavies = new int[MOST_THINGS];
        int cells = CELLS_AT_FIRST;
        int things;

        Village() {
            for (int c = 0; c < MOST_CELLS; c++) {
                drops[c] = DROP_AT_FIRST;
            }
        }

        boolean hasCell(int cell) {
            return cell >= 0 && cell < cells && cell < MOST_CELLS;
        }

        boolean hasThing(int thing) {
            return thing >= 0 && thing < things && thing < MOST_THINGS;
        }

        boolean addThing(int kind, int heavy) {
            if (things < 0 || things >= MOST_THINGS) {
                return false;
            }
            kinds[things] = kind;
            heavies[things] = heavy;
            things++;
            return true;
        }

        void become(Village other) {
            System.arraycopy(other.drops, 0, drops, 0, MOST_CELLS);
            System.arraycopy(other.kinds, 0, kinds, 0, MOST_THINGS);
            System.arraycopy(other.heavies, 0, heavies, 0, MOST_THINGS);
            cells = other.cells;
            things = other.things;
        }
    }

    /** The ball, the snow, where things are, their order, the draw: what undoing brings back. */
    private static final class Scene {
        final int[] snows = new int[MOST_CELLS];
        /** By thing: the cell where it lies, or IN_BALL, or IS_BACK. */
        final int[] wheres = new int[MOST_THINGS];
        final int[] taken = new int[MOST_THINGS];
        int takenCount;
        int place;
        int great = LEAST_GREAT;
        int fast;
        boolean rests = true;
        int draw = DRAW_AT_FIRST;

        Scene() {
            for (int c = 0; c < MOST_CELLS; c++) {
                snows[c] = SNOW_AT_FIRST;
            }
        }

        void become(Scene other) {
            System.arraycopy(other.snows, 0, snows, 0, MOST_CELLS);
            System.arraycopy(other.wheres, 0, wheres, 0, MOST_THINGS);
            System.arraycopy(other.taken, 0, taken, 0, MOST_THINGS);
            takenCount = other.takenCount;
            place = other.place;
            great = other.great;
            fast = other.fast;
            rests = other.rests;
            draw = other.draw;
        }

        void putAt(int thing, int where) {
            if (thing >= 0 && thing < MOST_THINGS) {
                wheres[thing] = where;
            }
        }

        int letGo(int g, int f) {
            int back = takenCount;
            for (int k = 0; k < MOST_THINGS && k < takenCount; k++) {
                putAt(taken[k], IS_BACK);
            }
            takenCount = 0;
            place = 0;
            great = g;
            fast = f;
            rests = false;
            return back;
        }

        void step(Village village, int bank) {
            if (rests || !village.hasCell(place)) {
                return;
            }
            boolean meetsBank = place == bank;
            int drop = meetsBank ? 0 : village.drops[place];
            fast = Math.min(MOST_FAST, Math.max(0, fast + drop - great / 10));
            if (meetsBank) {
                slowBy(BANK_SLOWS);
            }
            growBy(snows[place]);
            snows[place] = 0;
            meetThings(village);
            if (fast == 0) {
                rests = true;
            } else {
                moveOn(village);
            }
        }

        void moveOn(Village village) {
            place += 1 + fast / FAST_PER_CELL;
            if (place >= village.cells) {
                place = village.cells;
                rests = true;
            }
        }

        void meetThings(Village village) {
            for (int t = 0; t < MOST_THINGS && t < village.things; t++) {
                if (wheres[t] == place) {
                    meet(t, village.kinds[t], village.heavies[t]);
                }
            }
        }

        void meet(int thing, int kind, int heavy) {
            boolean slips = (kind == SLICK || kind == GRUDGE) && fast >= SLICK_FROM;
            boolean always = kind == LIGHT || kind == WARM;
            if (slips) {
                return;
            }
            if (!always && great < heavy) {
                slowBy(heavy);
                return;
            }
            takeUp(thing);
            if (kind == WARM) {
                shrinkBy(heavy);
            } else {
                growBy(kind == GRUDGE ? heavy + heavy : heavy);
            }
        }

        void takeUp(int thing) {
            if (thing >= 0 && thing < MOST_THINGS && takenCount >= 0 && takenCount < MOST_THINGS) {
                wheres[thing] = IN_BALL;
                taken[takenCount] = thing;
                takenCount++;
            }
        }

        void growBy(int by) {
            great = great + by < MOST_GREAT ? great + by : MOST_GREAT;
        }

        void shrinkBy(int by) {
            great = great - by > LEAST_GREAT ? great - by : LEAST_GREAT;
        }

        void slowBy(int by) {
            fast = fast > by ? fast - by : 0;
        }

        void meltADay(Village village) {
            if (takenCount < 1 || takenCount > MOST_THINGS) {
                shrinkBy(great / 10 + 1);
                return;
            }
            takenCount--;
            int last = taken[takenCount];
            if (village.hasThing(last)) {
                putAt(last, IS_BACK);
                shrinkBy(village.heavies[last] + 1);
            }
        }

        void snowFallsAt(int cell, int by) {
            if (cell >= 0 && cell < MOST_CELLS) {
                snows[cell] = Math.min(MOST_DIGIT, snows[cell] + by);
            }
        }

        void driftOnce(Village village) {
            draw = (draw * DRAW_TIMES + DRAW_MORE) & DRAW_BITS;
            if (village.cells > 0) {
                snowFallsAt(draw / DRAW_CUT % village.cells, 1);
            }
        }

        int snowOfAll(Village village) {
            int all = 0;
            for (int c = 0; c < MOST_CELLS && c < village.cells; c++) {
                all += snows[c];
            }
            return all;
        }

        int thingsWhere(Village village, int where) {
            int set = 0;
            for (int t = 0; t < MOST_THINGS && t < village.things; t++) {
                if (wheres[t] == where) {
                    set |= 1 << t;
                }
            }
            return set;
        }

        int thingsThatLie(Village village) {
            int set = 0;
            for (int t = 0; t < MOST_THINGS && t < village.things; t++) {
                if (wheres[t] >= 0) {
                    set |= 1 << t;
                }
            }
            return set;
        }

        int takenUpAs(int k) {
            return k >= 0 && k < takenCount && k < MOST_THINGS ? taken[k] : NONE;
        }

        int placeInOrder(int thing) {
            for (int k = 0; k < MOST_THINGS && k < takenCount; k++) {
                if (taken[k] == thing) {
                    return k;
                }
            }
            return NONE;
        }
    }

    /** The latest scenes, as they were ahead of what was done; the oldest makes room. */
    private static final class Past {
        final Scene[] scenes = new Scene[MOST_KNOWN];
        int known;
        int next;

        Past() {
            for (int k = 0; k < MOST_KNOWN; k++) {
                scenes[k] = new Scene();
            }
        }

        void remember(Scene scene) {
            if (next >= 0 && next < MOST_KNOWN) {
                scenes[next].become(scene);
                next = next + 1 < MOST_KNOWN ? next + 1 : 0;
                known = Math.min(MOST_KNOWN, known + 1);
            }
        }

        void bringBack(Scene scene) {
            next = next > 0 && next < MOST_KNOWN ? next - 1 : MOST_KNOWN - 1;
            known = Math.max(0, known - 1);
            scene.become(scenes[next]);
        }

        void forget() {
            known = 0;
        }

        void become(Past other) {
            for (int k = 0; k < MOST_KNOWN; k++) {
                scenes[k].become(other.scenes[k]);
            }
            known = other.known;
            next = other.next;
        }
    }

    /** All but sheets and the tape: what an image keeps. */
    private static final class World {
        final Village village = new Village();
        final Scene scene = new Scene();
        final Past past = new Past();

        void become(World other) {
            village.become(other.village);
            scene.become(other.scene);
            past.become(other.past);
        }
    }

    /** A scene to roll a ball in without changing the one that is. */
    private static final class Trial {
        final Scene scene = new Scene();
        int made;
        int fastest;

        void begin(Scene from) {
            scene.become(from);
        }

        void rollToRest(Village village, int bank) {
            fastest = scene.fast;
            // A step that does not end in rest goes on by a cell at least: there are no more steps.
            for (made = 0; made < MOST_CELLS && !scene.rests; made++) {
                scene.step(village, bank);
                fastest = Math.max(fastest, scene.fast);
            }
        }
    }

    /** The letters that were typed, and the place up to which they are read. */
    private static final class Tape {
        final char[] letters = new char[MOST_LETTERS];
        int length;
        int place;

        boolean add(char letter) {
            if (length < 0 || length >= MOST_LETTERS) {
                return false;
            }
            letters[length] = letter;
            length++;
            return true;
        }

        void clear() {
            length = 0;
        }

        char letterHere() {
            return place >= 0 && place < length && place < MOST_LETTERS ? letters[place] : END;
        }

        void skipBlanks() {
            while (place >= 0 && place < length && place < MOST_LETTERS && letters[place] == BLANK) {
                place++;
            }
        }

        boolean takes(char letter) {
            skipBlanks();
            if (letterHere() != letter) {
                return false;
            }
            place++;
            return true;
        }

        /** The digit behind blanks, or NONE: then the place is that of the letter there. */
        int readDigit() {
            skipBlanks();
            char letter = letterHere();
            if (!isDigit(letter)) {
                return NONE;
            }
            place++;
            return letter - '0';
        }

        /** The number below a bound, or NONE: then the place is that of the fault. */
        int readNumberBelow(int bound) {
            int number = readDigit();
            if (number < 0) {
                return NONE;
            }
            int firstDigit = place - 1;
            if (isDigit(letterHere())) {
                number = number * 10 + (letterHere() - '0');
                place++;
            }
            if (number >= bound) {
                place = firstDigit;
                return NONE;
            }
            return number;
        }

        static boolean isDigit(char letter) {
            return letter >= '0' && letter <= '9';
        }
    }

    /** Reads the tape into a village and a scene of its own, so that a fault changes nothing else. */
    private static final class VillageReader {
        final Tape tape = new Tape();
        final Village village = new Village();
        final Scene scene = new Scene();

        /** Whether the tape is a village; if not, the tape's place is that of the fault. */
        boolean readVillage() {
            tape.place = 0;
            village.cells = 0;
            village.things = 0;
            if (!readCells()) {
                return false;
            }
            if (tape.takes(';') && !readThings()) {
                return false;
            }
            tape.skipBlanks();
            return tape.letterHere() == END;
        }

        boolean readCells() {
            for (int c = 0; c < MOST_CELLS; c++) {
                if (!readCell()) {
                    return false;
                }
                boolean isLast = c + 1 == MOST_CELLS || !tape.takes(',');
                if (isLast) {
                    break;
                }
            }
            return village.cells >= LEAST_CELLS;
        }

        boolean readCell() {
            int drop = tape.readDigit();
            if (drop < 0) {
                return false;
            }
            int snow = tape.readDigit();
            if (snow < 0 || village.cells < 0 || village.cells >= MOST_CELLS) {
                return false;
            }
            village.drops[village.cells] = drop;
            scene.snows[village.cells] = snow;
            village.cells++;
            return true;
        }

        boolean readThings() {
            for (int t = 0; t < MOST_THINGS; t++) {
                if (!readThing()) {
                    return false;
                }
                boolean isLast = t + 1 == MOST_THINGS || !tape.takes(',');
                if (isLast) {
                    break;
                }
            }
            return true;
        }

        boolean readThing() {
            tape.skipBlanks();
            int kind = KIND_LETTERS.indexOf(tape.letterHere());
            if (kind < 0) {
                return false;
            }
            tape.place++;
            int heavy = tape.readDigit();
            if (heavy < 0 || !tape.takes('@')) {
                return false;
            }
            int cell = tape.readNumberBelow(village.cells);
            if (cell < 0) {
                return false;
            }
            scene.putAt(village.things, cell);
            return village.addThing(kind, heavy);
        }
    }

    /** Nothing, or a row of a lane; the items stand as longs, cut to the lane when they come. */
    private static final class Sheet {
        final long[] items = new long[MOST_ITEMS];
        int lane = NO_LANE;
        int size;

        void holdNewRow(int newLane, int n) {
            lane = newLane;
            size = Math.min(MOST_ITEMS, Math.max(0, n));
            for (int i = 0; i < MOST_ITEMS; i++) {
                items[i] = 0;
            }
        }

        void holdNothing() {
            lane = NO_LANE;
            size = 0;
        }

        boolean hasItems(int i, int n) {
            return i >= 0 && n >= 0 && i <= size - n;
        }

        int refusal(int asLane, int i, int n) {
            if (lane == NO_LANE) {
                return NULL;
            }
            if (lane != asLane) {
                return CAST;
            }
            return hasItems(i, n) ? FINE : INDEX;
        }

        void put(int i, long v) {
            if (hasItems(i, 1)) {
                items[i] = lowestBits(v);
            }
        }

        boolean holds(int i, long v) {
            return hasItems(i, 1) && items[i] == v;
        }

        long lowestBits(long v) {
            switch (lane) {
                case BYTES: return (byte) v;
                case SHORTS: return (short) v;
                case INTS: return (int) v;
                default: return v;
            }
        }
    }
}
