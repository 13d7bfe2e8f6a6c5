import java.util.Arrays;

/**
 * Sums made of light: a plate of cells where two lanes meet and turn into one another, modulo 97.
 * The document's words in capitals (TURN, CELL, WORKS, ..) are used here as it tells them.
 */
public final class LightPlate {
    public static final int NONE = -1, BAD = -2, STATE = -3, FULL = -4;

    private static final int NOTHING = -5;
    private static final int LACKED = -10;
    private static final int PRIME = 97;
    private static final int FULL_TURN = 96;
    private static final int FEWEST_LANES = 2;
    private static final int MOST_LANES = 6;
    private static final int LAYERS = 12;
    /** The places for CELLS that a LAYER has at most; some stay empty where LANES are few. */
    private static final int SLOTS = 3;
    private static final int CELLS = LAYERS * SLOTS;
    private static final int MOST_STEPS = MOST_LANES * (MOST_LANES - 1) / 2;
    private static final int MOST_WORKS = 10;
    private static final int MOST_BYTES = 100;
    private static final int MOST_FED = 8;
    private static final int BITS_OF_BYTE = 8;
    private static final int MOST_CREEP = 99;
    private static final int MOST_OFFSET = 8;
    private static final int MOST_RUNS = 40;
    private static final int MOST_ENTRIES = 60;
    private static final int MOST_PROBES = 20;
    private static final int USERS = 2;

    private final Circle circle;
    private final Plate plate;
    private final Told told;
    private final Row works;
    private final Layout layout;
    private final Reader reader;
    private final Log log;
    private final Runs runs;
    private final Probing search;
    private final Users users;

    public LightPlate(int lanes) {
        int n = Math.floorMod(lanes, 5) + FEWEST_LANES;
        circle = new Circle();
        plate = new Plate(n, circle);
        told = new Told(n, circle);
        works = new Row();
        layout = new Layout(plate, works);
        reader = new Reader(n);
        log = new Log();
        runs = new Runs(plate, log);
        search = new Probing(plate, log);
        users = new Users(plate);
    }

    public int turn(int k, int what) {
        int turn = Math.floorMod(k, FULL_TURN);
        switch (what) {
            case 0: return circle.c[turn];
            case 1: return circle.s[turn];
            default: return NONE;
        }
    }

    public int set(int layer, int i, int k) {
        int cell = plate.cellAt(layer, i);
        if (cell < 0) return NONE;
        if (!isTurn(k)) return BAD;
        if (log.isFull()) return FULL;
        int was = plate.setting[cell];
        plate.setting[cell] = k;
        log.addSetting();
        return was;
    }

    public int dies(int layer, int i, int k) {
        int cell = plate.cellAt(layer, i);
        if (cell < 0) return NONE;
        if (!isTurn(k)) return BAD;
        boolean was = plate.isDead(cell);
        plate.stuck[cell] = k;
        return was ? 0 : 1;
    }

    public int mend(int layer, int i) {
        int cell = plate.cellAt(layer, i);
        if (cell < 0) return NONE;
        if (!plate.isDead(cell)) return STATE;
        int was = plate.stuck[cell];
        plate.stuck[cell] = NONE;
        return was;
    }

    public int cell(int layer, int i, int what) {
        int cell = plate.cellAt(layer, i);
        if (cell < 0) return NONE;
        switch (what) {
            case 0: return plate.setting[cell];
            case 1: return plate.stuck[cell];
            case 2: return plate.heat(plate.setting, cell);
            case 3: return plate.trueTurn(plate.setting, plate.offset, cell);
            case 4: return users.owner[cell];
            default: return NONE;
        }
    }

    public int table(int r, int c) {
        if (!isLane(r) || !isLane(c)) return NONE;
        return plate.columnOfTable(c)[r];
    }

    // ---- a told table

    public int entry(int r, int c, int v) {
        if (!isLane(r) || !isLane(c)) return NONE;
        if (v < 0 || v >= PRIME) return BAD;
        int was = told.column[c][r];
        told.column[c][r] = v;
        return was;
    }

    public int take() {
        boolean another = false;
        for (int c = 0; c < plate.lanes; c++) {
            if (told.replaceColumn(c, plate.columnOfTable(c))) another = true;
        }
        return another ? 1 : 0;
    }

    public int right() {
        return told.isRight() ? 1 : 0;
    }

    public int split() {
        return told.splitIntoSteps() ? told.steps : LACKED - told.steps;
    }

    public int step(int i, int what) {
        switch (what) {
            case 0: return told.isStep(i) ? told.upper[i] : NONE;
            case 1: return told.isStep(i) ? told.by[i] : NONE;
            case 2: return told.whole && isLane(i) ? told.rest[i][i] : NONE;
            default: return NONE;
        }
    }

    public int undo() {
        if (!told.whole) return STATE;
        if (told.stepsAboveZero() > MOST_WORKS) return FULL;
        told.putUndoing(works);
        return works.size;
    }

    public int work(int i, int what) {
        if (i < 0 || i >= works.size) return NONE;
        switch (what) {
            case 0: return works.lane[i];
            case 1: return works.turn[i];
            default: return NONE;
        }
    }

    public int lay() {
        return layout.layWorks();
    }

    // ---- programs

    public int feed(long w, int n) {
        if (n < 1 || n > MOST_FED) return BAD;
        if (reader.size + n > MOST_BYTES) return FULL;
        for (int place = n - 1; place >= 0; place--) {
            reader.append((int) (w >>> (BITS_OF_BYTE * place)) & 255);
        }
        return reader.size;
    }

    public int program() {
        int fault = reader.readTape();
        if (fault != 0) return fault;
        works.copy(reader.result());
        return works.size;
    }

    // ---- runs

    public int creep(int n) {
        if (n < 1 || n > MOST_CREEP) return BAD;
        int was = plate.creep;
        plate.creep = n;
        return was;
    }

    public int offset(int layer, int i, int n) {
        int cell = plate.cellAt(layer, i);
        if (cell < 0) return NONE;
        if (!isOffset(n)) return BAD;
        int was = plate.offset[cell];
        plate.offset[cell] = n;
        return was;
    }

    public int run(long light) {
        if (light < 0 || light >= runs.lightLimit) return BAD;
        if (runs.size >= MOST_RUNS) return FULL;
        return runs.send(light);
    }

    public int out(int run, int lane) {
        if (!runs.has(run) || !isLane(lane)) return NONE;
        return runs.result[run][lane];
    }

    public int reworked(int run, int lane) {
        if (!runs.has(run) || !isLane(lane)) return NONE;
        return runs.rework(run)[lane];
    }

    public int since() {
        for (int run = 0; run < runs.size; run++) {
            if (!runs.standsReworked(run)) return run;
        }
        return NOTHING;
    }

    public int found(int layer, int i, int n, int tick) {
        int cell = plate.cellAt(layer, i);
        if (cell < 0) return NONE;
        if (!isOffset(n) || tick < 0 || tick > runs.size) return BAD;
        if (log.isFull()) return FULL;
        log.addFound(cell, n, tick);
        return log.entries;
    }

    // ---- probes

    public int probing() {
        search.begin();
        return search.size;
    }

    public int probe(int j, int m) {
        if (!isLane(j) || !isLane(m)) return NONE;
        if (!search.begun) return STATE;
        if (search.done >= MOST_PROBES) return FULL;
        return search.lookAt(j, m, runs.size);
    }

    public int held(int i) {
        if (!search.begun) return STATE;
        return i == -1 ? search.heldCount : search.heldAt(i);
    }

    public int next() {
        if (!search.begun || search.heldCount == 0) return STATE;
        return search.best(runs.size);
    }

    // ---- users

    public int claim(int user, int layer, int i) {
        int cell = plate.cellAt(layer, i);
        if (cell < 0 || user < NONE || user >= USERS) return NOTHING;
        int was = users.owner[cell];
        if (user != NONE && was != NONE && was != user) return STATE;
        users.owner[cell] = user;
        return was;
    }

    public int meeting() {
        for (int lane = 0; lane < plate.lanes; lane++) {
            if (users.bothReachedFrom(lane)) return lane;
        }
        return NOTHING;
    }

    public int count(int what) {
        switch (what) {
            case 0: return plate.lanes;
            case 1: return plate.deadCells();
            case 2: return works.size;
            case 3: return runs.size;
            case 4: return log.entries;
            case 5: return reader.size;
            case 6: return plate.layersInUse();
            case 7: return plate.creep;
            default: return NONE;
        }
    }

    private boolean isLane(int lane) {
        return lane >= 0 && lane < plate.lanes;
    }

    private static boolean isTurn(int k) {
        return k >= 0 && k < FULL_TURN;
    }

    private static boolean isOffset(int n) {
        return n >= -MOST_OFFSET && n <= MOST_OFFSET;
    }

    /** C and S of all TURNS, and what TURNING does. */
    private static final class Circle {
        private static final int C_OF_ONE = 22, S_OF_ONE = 83;

        final int[] c = new int[FULL_TURN];
        final int[] s = new int[FULL_TURN];

        Circle() {
            c[0] = 1;
            for (int k = 1; k < FULL_TURN; k++) {
                c[k] = Math.floorMod(c[k - 1] * C_OF_ONE - s[k - 1] * S_OF_ONE, PRIME);
                s[k] = (s[k - 1] * C_OF_ONE + c[k - 1] * S_OF_ONE) % PRIME;
            }
        }

        /** TURNS the LANES i and i + 1 of a row by k. */
        void turnLanes(int[] row, int i, int k) {
            int x = row[i];
            int y = row[i + 1];
            row[i] = Math.floorMod(c[k] * x - s[k] * y, PRIME);
            row[i + 1] = (s[k] * x + c[k] * y) % PRIME;
        }

        /** The least TURN that makes the lower one of two LANES 0; NONE if there is none. */
        int clearing(int x, int y) {
            for (int k = 0; k < FULL_TURN; k++) {
                if ((s[k] * x + c[k] * y) % PRIME == 0) return k;
            }
            return NONE;
        }
    }

    /** THE PLATE: CELLS are told by one number, LAYER times SLOTS and half their upper LANE. */
    private static final class Plate {
        final int lanes;
        final Circle circle;
        /** The upper LANE of each CELL; NONE where no CELL is. */
        final int[] lane = new int[CELLS];
        final int[] setting = new int[CELLS];
        /** The TURN at which a CELL is stuck; NONE if it is not DEAD. */
        final int[] stuck = new int[CELLS];
        final int[] offset = new int[CELLS];
        int creep = MOST_CREEP;
        private final int[] plainTurns = new int[CELLS];
        private final int[] light = new int[MOST_LANES];

        Plate(int lanes, Circle circle) {
            this.lanes = lanes;
            this.circle = circle;
            Arrays.fill(stuck, NONE);
            for (int cell = 0; cell < CELLS; cell++) {
                int upper = 2 * (cell % SLOTS) + cell / SLOTS % 2;
                lane[cell] = upper + 1 < lanes ? upper : NONE;
            }
        }

        int cellAt(int layer, int i) {
            if (layer < 0 || layer >= LAYERS || i < 0 || i > lanes - 2) return NONE;
            return i % 2 == layer % 2 ? layer * SLOTS + i / 2 : NONE;
        }

        boolean isCell(int cell) {
            return lane[cell] != NONE;
        }

        boolean isDead(int cell) {
            return stuck[cell] != NONE;
        }

        /** HEAT by SETTINGS that are told; a place without a CELL has none, as it stays at 0. */
        int heat(int[] settings, int cell) {
            int k = stuck[cell] != NONE ? stuck[cell] : settings[cell];
            return Math.min(k, FULL_TURN - k);
        }

        int trueTurn(int[] settings, int[] offsets, int cell) {
            if (isDead(cell)) return stuck[cell];
            return Math.floorMod(settings[cell] + warmth(settings, cell) + offsets[cell], FULL_TURN);
        }

        void fillTrueTurns(int[] settings, int[] offsets, int[] turns) {
            for (int cell = 0; cell < CELLS; cell++) turns[cell] = trueTurn(settings, offsets, cell);
        }

        /** Sends a row of light through the LAYERS from one on up to another, that one left out. */
        void send(int[] row, int[] turns, int from, int to) {
            for (int cell = from * SLOTS; cell < to * SLOTS; cell++) {
                if (isCell(cell)) circle.turnLanes(row, lane[cell], turns[cell]);
            }
        }

        int[] columnOfTable(int c) {
            for (int cell = 0; cell < CELLS; cell++) {
                plainTurns[cell] = isDead(cell) ? stuck[cell] : setting[cell];
            }
            Arrays.fill(light, 0);
            light[c] = 1;
            send(light, plainTurns, 0, LAYERS);
            return light;
        }

        int deadCells() {
            int dead = 0;
            for (int cell = 0; cell < CELLS; cell++) {
                if (isDead(cell)) dead++;
            }
            return dead;
        }

        int layersInUse() {
            int used = 0;
            for (int layer = 0; layer < LAYERS; layer++) {
                if (isInUse(layer)) used++;
            }
            return used;
        }

        private boolean isInUse(int layer) {
            for (int cell = layer * SLOTS; cell < (layer + 1) * SLOTS; cell++) {
                if (isDead(cell) || setting[cell] > 0) return true;
            }
            return false;
        }

        private int warmth(int[] settings, int cell) {
            int slot = cell % SLOTS;
            int sum = 0;
            if (slot > 0) sum += heat(settings, cell - 1);
            if (slot < SLOTS - 1) sum += heat(settings, cell + 1);
            return sum / creep;
        }
    }

    /** THE TOLD TABLE by columns, and its latest SPLIT. */
    private static final class Told {
        final int lanes;
        final Circle circle;
        final int[][] column;
        /** The columns as the STEPS left them. */
        final int[][] rest;
        final int[] upper = new int[MOST_STEPS];
        final int[] by = new int[MOST_STEPS];
        int steps;
        /** Whether there was a SPLIT, and the latest one lacked no STEP. */
        boolean whole;

        Told(int lanes, Circle circle) {
            this.lanes = lanes;
            this.circle = circle;
            column = new int[lanes][lanes];
            rest = new int[lanes][lanes];
        }

        /** Whether some entry of the column is another then. */
        boolean replaceColumn(int c, int[] row) {
            boolean another = false;
            for (int r = 0; r < lanes; r++) {
                if (column[c][r] != row[r]) another = true;
                column[c][r] = row[r];
            }
            return another;
        }

        boolean isRight() {
            for (int a = 0; a < lanes; a++) {
                for (int b = a; b < lanes; b++) {
                    if (product(column[a], column[b]) != (a == b ? 1 : 0)) return false;
                }
            }
            return true;
        }

        boolean isStep(int i) {
            return i >= 0 && i < steps;
        }

        boolean splitIntoSteps() {
            for (int c = 0; c < lanes; c++) System.arraycopy(column[c], 0, rest[c], 0, lanes);
            steps = 0;
            whole = false;
            for (int c = 0; c < lanes - 1; c++) {
                for (int r = lanes - 1; r > c; r--) {
                    int k = circle.clearing(rest[c][r - 1], rest[c][r]);
                    if (k == NONE) return false;
                    addStep(r - 1, k);
                }
            }
            whole = true;
            return true;
        }

        int stepsAboveZero() {
            int many = 0;
            for (int i = 0; i < steps; i++) {
                if (by[i] > 0) many++;
            }
            return many;
        }

        void putUndoing(Row row) {
            row.clear();
            for (int i = steps - 1; i >= 0; i--) {
                if (by[i] > 0) row.add(upper[i], FULL_TURN - by[i]);
            }
        }

        private void addStep(int lane, int k) {
            for (int c = 0; c < lanes; c++) circle.turnLanes(rest[c], lane, k);
            upper[steps] = lane;
            by[steps] = k;
            steps++;
        }

        private int product(int[] one, int[] other) {
            int sum = 0;
            for (int r = 0; r < lanes; r++) sum += one[r] * other[r];
            return sum % PRIME;
        }
    }

    /** A row of WORKS; one that would have more than may be kept says only that it is too long. */
    private static final class Row {
        private static final int TOO_LONG = MOST_WORKS + 1;

        final int[] lane = new int[MOST_WORKS];
        final int[] turn = new int[MOST_WORKS];
        int size;

        void clear() {
            size = 0;
        }

        boolean isTooLong() {
            return size >= TOO_LONG;
        }

        void add(int upper, int k) {
            if (size >= MOST_WORKS) {
                size = TOO_LONG;
                return;
            }
            lane[size] = upper;
            turn[size] = k;
            size++;
        }

        void addAll(Row other) {
            if (other.isTooLong()) {
                size = TOO_LONG;
                return;
            }
            for (int w = 0; w < other.size; w++) add(other.lane[w], other.turn[w]);
        }

        void copy(Row other) {
            clear();
            addAll(other);
        }
    }

    /** LAYS WORKS on THE PLATE; sets of WORKS are bits, WORK 0 the least. */
    private static final class Layout {
        private static final int NEVER = LAYERS + 1;
        private static final int ALL_BITS = (1 << MOST_WORKS) - 1;
        private static final int MEMO_BITS = 4, MEMO_MASK = 15;

        final Plate plate;
        final Row works;
        /** By the set of WORKS done, four bits for each LAYER: 1 and the answer of fewestFrom; 0: not known. */
        private final long[] memo = new long[1 << MOST_WORKS];
        /** Of each WORK the earlier ones that have a LANE in common with it. */
        private final int[] earlier = new int[MOST_WORKS];
        private int all;
        /** How many LAYERS there are up to the last one with a CELL stuck above 0. */
        private int bound;

        Layout(Plate plate, Row works) {
            this.plate = plate;
            this.works = works;
        }

        int layWorks() {
            prepare();
            int fewest = fewestFrom(0, 0);
            if (fewest == NEVER) return NOTHING;
            putSettings(fewest);
            return fewest;
        }

        private void prepare() {
            all = (1 << works.size) - 1;
            Arrays.fill(memo, 0, all + 1, 0L);
            for (int w = 0; w < works.size; w++) {
                earlier[w] = 0;
                for (int v = 0; v < w; v++) {
                    if (Math.abs(works.lane[v] - works.lane[w]) <= 1) earlier[w] |= 1 << v;
                }
            }
            bound = 0;
            for (int cell = 0; cell < CELLS; cell++) {
                if (plate.stuck[cell] > 0) bound = cell / SLOTS + 1;
            }
        }

        /** The least number of LAYERS in all, if the WORKS that are done were done ahead of this LAYER. */
        private int fewestFrom(int layer, int done) {
            if (done == all) return layer >= bound ? layer : NEVER;
            if (layer >= LAYERS) return NEVER;
            int known = (int) (memo[done] >>> (MEMO_BITS * layer)) & MEMO_MASK;
            if (known > 0) return known - 1;
            int least = NEVER;
            int choices = choicesAt(layer, done);
            if (choices >= 0) {
                int may = choices & ALL_BITS;
                int then = done | (choices >> MOST_WORKS);
                for (int some = may; some >= 0; some = some == 0 ? -1 : (some - 1) & may) {
                    least = Math.min(least, fewestFrom(layer + 1, then | some));
                }
            }
            memo[done] |= (long) (least + 1) << (MEMO_BITS * layer);
            return least;
        }

        /** The WORKS that a LAYER may do, and MOST_WORKS bits higher those that it must; NONE if it can't be. */
        private int choicesAt(int layer, int done) {
            int may = 0;
            int must = 0;
            for (int cell = layer * SLOTS; cell < (layer + 1) * SLOTS; cell++) {
                if (!plate.isCell(cell)) continue;
                int stuck = plate.stuck[cell];
                int w = readyWork(plate.lane[cell], done);
                boolean fits = w != NONE && (stuck == NONE || stuck == works.turn[w]);
                if (fits && stuck > 0) must |= 1 << w;
                else if (fits) may |= 1 << w;
                else if (stuck > 0) return NONE;
            }
            return (must << MOST_WORKS) | may;
        }

        private int readyWork(int lane, int done) {
            for (int w = 0; w < works.size; w++) {
                if (works.lane[w] == lane && (done >> w & 1) == 0) {
                    return (earlier[w] & ~done) == 0 ? w : NONE;
                }
            }
            return NONE;
        }

        private void putSettings(int fewest) {
            for (int cell = 0; cell < CELLS; cell++) {
                if (!plate.isDead(cell)) plate.setting[cell] = 0;
            }
            int done = 0;
            for (int layer = 0; layer < fewest; layer++) {
                int set = greatestSet(layer, done, fewest);
                putLayer(layer, set);
                done |= set;
            }
        }

        private int greatestSet(int layer, int done, int fewest) {
            int choices = choicesAt(layer, done);
            if (choices < 0) return 0;
            int may = choices & ALL_BITS;
            int must = choices >> MOST_WORKS;
            for (int some = may; some > 0; some = (some - 1) & may) {
                if (fewestFrom(layer + 1, done | must | some) == fewest) return must | some;
            }
            return must;
        }

        private void putLayer(int layer, int set) {
            for (int w = 0; w < works.size; w++) {
                int cell = (set >> w & 1) == 0 ? NONE : plate.cellAt(layer, works.lane[w]);
                if (cell != NONE && !plate.isDead(cell)) plate.setting[cell] = works.turn[w];
            }
        }
    }

    /**
     * THE TAPE, and the reading of PROGRAMS. Each bracket that is open has a level with its WORKS so far.
     * What reads a part answers whether a PROGRAM can go on so; if not, place is where it can't.
     */
    private static final class Reader {
        private static final int SYNTAX = -1000, UNKNOWN_NAME = -2000, TOO_MANY = -3000;
        private static final int SWITCH = 24;
        private static final int NAMES = 6;
        private static final int DIGITS = 10;
        /** A bracket takes two bytes at least. */
        private static final int DEEPEST = MOST_BYTES / 2;

        final int lanes;
        int size;
        private final int[] tape = new int[MOST_BYTES];
        private final Row[] level = new Row[DEEPEST + 1];
        /** What opened a level: how many times it is done, or DIGITS and the NAME's number. */
        private final int[] opener = new int[DEEPEST + 1];
        private final Row[] meaning = new Row[NAMES];
        private final boolean[] isTold = new boolean[NAMES];
        private int place;
        private int depth;
        private int unknownName;
        private boolean opened;

        Reader(int lanes) {
            this.lanes = lanes;
            for (int d = 0; d <= DEEPEST; d++) level[d] = new Row();
            for (int name = 0; name < NAMES; name++) meaning[name] = new Row();
        }

        void append(int b) {
            if (size < MOST_BYTES) tape[size++] = b;
        }

        /** The WORKS of a PROGRAM that was read without a FAULT. */
        Row result() {
            return level[0];
        }

        /** Reads THE TAPE and empties it: 0, or the FAULT. */
        int readTape() {
            place = 0;
            depth = 0;
            unknownName = NONE;
            level[0].clear();
            for (int name = 0; name < NAMES; name++) isTold[name] = false;
            boolean whole = readStatements();
            size = 0;
            if (!whole) return SYNTAX - place;
            if (unknownName != NONE) return UNKNOWN_NAME - unknownName;
            return level[0].isTooLong() ? TOO_MANY : 0;
        }

        private boolean readStatements() {
            for (int read = 0; read <= MOST_BYTES; read++) {
                if (!readStatement()) return false;
                if (opened) continue;
                for (int open = depth; open > 0 && takes(')'); open--) closeBracket();
                if (place >= size) return depth == 0;
                if (!takes(';')) return false;
            }
            return false;
        }

        private boolean readStatement() {
            opened = false;
            int b = peek();
            if (b == 't' || b == 's' || b == 'u') return readTurn(b);
            if (isDigit(b)) {
                place++;
                return openBracket(b - '0');
            }
            return b >= 'a' && b < 'a' + NAMES && readName(b - 'a');
        }

        private boolean readTurn(int kind) {
            place++;
            int lane = readNumber(lanes - 2);
            if (lane == NONE) return false;
            int k = kind == 's' ? SWITCH : readNumber(FULL_TURN - 1);
            if (k == NONE) return false;
            level[depth].add(lane, kind == 'u' ? (FULL_TURN - k) % FULL_TURN : k);
            return true;
        }

        /** A blank and a number; NONE if no PROGRAM can go on so: place is then the first byte that can't be. */
        private int readNumber(int most) {
            if (!takes(' ')) return NONE;
            int number = digitUpTo(most);
            if (number <= 0 || !isDigit(peek())) return number;
            int second = digitUpTo(most - 10 * number);
            return second == NONE ? NONE : 10 * number + second;
        }

        /** A digit that is not above most; NONE if the next byte is none such. */
        private int digitUpTo(int most) {
            int b = peek();
            if (!isDigit(b) || b - '0' > most) return NONE;
            place++;
            return b - '0';
        }

        private boolean readName(int name) {
            int start = place;
            place++;
            if (takes('=')) return openBracket(DIGITS + name);
            if (isTold[name]) level[depth].addAll(meaning[name]);
            else if (unknownName == NONE) unknownName = start;
            return true;
        }

        private boolean openBracket(int how) {
            if (depth >= DEEPEST || !takes('(')) return false;
            depth++;
            level[depth].clear();
            opener[depth] = how;
            opened = true;
            return true;
        }

        private void closeBracket() {
            Row body = level[depth];
            int how = opener[depth];
            depth--;
            if (how >= DIGITS) {
                meaning[how - DIGITS].copy(body);
                isTold[how - DIGITS] = true;
            } else {
                for (int time = 0; time < how; time++) level[depth].addAll(body);
            }
        }

        private int peek() {
            return place < size ? tape[place] : NONE;
        }

        private boolean takes(int b) {
            if (peek() != b) return false;
            place++;
            return true;
        }

        private static boolean isDigit(int b) {
            return b >= '0' && b <= '9';
        }
    }

    /** THE LOG. SETTINGS are only counted here: each RUN keeps those that were in it. */
    private static final class Log {
        int entries;
        private int founds;
        private final int[] cellOf = new int[MOST_ENTRIES];
        private final int[] offsetOf = new int[MOST_ENTRIES];
        private final int[] tickOf = new int[MOST_ENTRIES];
        private final int[] knownFrom = new int[CELLS];

        boolean isFull() {
            return entries >= MOST_ENTRIES;
        }

        void addSetting() {
            entries++;
        }

        void addFound(int cell, int n, int tick) {
            if (founds >= MOST_ENTRIES) return;
            cellOf[founds] = cell;
            offsetOf[founds] = n;
            tickOf[founds] = tick;
            founds++;
            entries++;
        }

        /** The OFFSETS of all CELLS that are known now for a TICK. */
        void fillKnown(int tick, int[] known) {
            Arrays.fill(known, 0);
            Arrays.fill(knownFrom, 0);
            for (int e = 0; e < founds; e++) {
                int cell = cellOf[e];
                if (tickOf[e] <= tick && tickOf[e] >= knownFrom[cell]) {
                    knownFrom[cell] = tickOf[e];
                    known[cell] = offsetOf[e];
                }
            }
        }
    }

    /** The RUNS that are kept. */
    private static final class Runs {
        final Plate plate;
        final Log log;
        final long lightLimit;
        int size;
        final int[][] result = new int[MOST_RUNS][MOST_LANES];
        private final int[][] lightIn = new int[MOST_RUNS][MOST_LANES];
        private final int[][] settings = new int[MOST_RUNS][CELLS];
        private final int[] turns = new int[CELLS];
        private final int[] known = new int[CELLS];
        private final int[] light = new int[MOST_LANES];

        Runs(Plate plate, Log log) {
            this.plate = plate;
            this.log = log;
            long limit = 1;
            for (int lane = 0; lane < plate.lanes; lane++) limit *= PRIME;
            lightLimit = limit;
        }

        boolean has(int run) {
            return run >= 0 && run < size;
        }

        int send(long digits) {
            int run = size;
            size++;
            long left = digits;
            for (int lane = 0; lane < plate.lanes; lane++) {
                lightIn[run][lane] = (int) (left % PRIME);
                left /= PRIME;
            }
            System.arraycopy(plate.setting, 0, settings[run], 0, CELLS);
            System.arraycopy(lightIn[run], 0, result[run], 0, MOST_LANES);
            plate.fillTrueTurns(plate.setting, plate.offset, turns);
            plate.send(result[run], turns, 0, LAYERS);
            return run;
        }

        int[] rework(int run) {
            log.fillKnown(run, known);
            plate.fillTrueTurns(settings[run], known, turns);
            System.arraycopy(lightIn[run], 0, light, 0, MOST_LANES);
            plate.send(light, turns, 0, LAYERS);
            return light;
        }

        boolean standsReworked(int run) {
            int[] anew = rework(run);
            for (int lane = 0; lane < plate.lanes; lane++) {
                if (anew[lane] != result[run][lane]) return false;
            }
            return true;
        }
    }

    /** THE PROBING: its HYPOTHESES, and which of them are HELD. */
    private static final class Probing {
        private static final int WAYS = 4;
        private static final int MOST_HYPOTHESES = 1 + WAYS * CELLS;

        final Plate plate;
        final Log log;
        boolean begun;
        int size;
        int done;
        int heldCount;
        private final int[] cellOf = new int[MOST_HYPOTHESES];
        private final int[] moreOf = new int[MOST_HYPOTHESES];
        private final boolean[] isHeld = new boolean[MOST_HYPOTHESES];
        private final int[] known = new int[CELLS];
        private final int[] turns = new int[CELLS];
        /** The light as it comes to each LAYER by what is known, and behind the last one. */
        private final int[][] trace = new int[LAYERS + 1][MOST_LANES];
        private final int[] light = new int[MOST_LANES];
        /** How many of those HELD come to each number, by LANES that are looked at. */
        private final int[][] groups = new int[MOST_LANES][PRIME];
        private final int[] greatest = new int[MOST_LANES];

        Probing(Plate plate, Log log) {
            this.plate = plate;
            this.log = log;
        }

        void begin() {
            begun = true;
            done = 0;
            cellOf[0] = NONE;
            size = 1;
            for (int cell = 0; cell < CELLS; cell++) {
                if (plate.isCell(cell) && !plate.isDead(cell)) addCell(cell);
            }
            for (int h = 0; h < size; h++) isHeld[h] = true;
            heldCount = size;
        }

        int lookAt(int j, int m, int tick) {
            done++;
            plate.fillTrueTurns(plate.setting, plate.offset, turns);
            traceFrom(j);
            int seen = trace[LAYERS][m];
            fillKnownTurns(tick);
            traceFrom(j);
            for (int h = 0; h < size; h++) {
                if (isHeld[h] && outcome(h)[m] != seen) {
                    isHeld[h] = false;
                    heldCount--;
                }
            }
            return seen;
        }

        int heldAt(int i) {
            int ahead = 0;
            for (int h = 0; h < size; h++) {
                if (!isHeld[h]) continue;
                if (ahead == i) return h;
                ahead++;
            }
            return NONE;
        }

        /** NEXT PROBE. */
        int best(int tick) {
            fillKnownTurns(tick);
            int least = size + 1;
            int probe = NONE;
            for (int j = 0; j < plate.lanes; j++) {
                traceFrom(j);
                countGroups();
                for (int m = 0; m < plate.lanes; m++) {
                    if (greatest[m] < least) {
                        least = greatest[m];
                        probe = 10 * j + m;
                    }
                }
            }
            return probe;
        }

        private void addCell(int cell) {
            for (int more = -2; more <= 2; more++) {
                if (more == 0) continue;
                cellOf[size] = cell;
                moreOf[size] = more;
                size++;
            }
        }

        private void fillKnownTurns(int tick) {
            log.fillKnown(tick, known);
            plate.fillTrueTurns(plate.setting, known, turns);
        }

        private void traceFrom(int j) {
            Arrays.fill(trace[0], 0);
            trace[0][j] = 1;
            for (int layer = 0; layer < LAYERS; layer++) {
                System.arraycopy(trace[layer], 0, trace[layer + 1], 0, MOST_LANES);
                plate.send(trace[layer + 1], turns, layer, layer + 1);
            }
        }

        /** What comes out by a HYPOTHESIS: up to its CELL's LAYER the light is as traced. */
        private int[] outcome(int h) {
            int cell = cellOf[h];
            if (cell == NONE || plate.isDead(cell)) return trace[LAYERS];
            int layer = cell / SLOTS;
            int before = turns[cell];
            turns[cell] = Math.floorMod(before + moreOf[h], FULL_TURN);
            System.arraycopy(trace[layer], 0, light, 0, MOST_LANES);
            plate.send(light, turns, layer, LAYERS);
            turns[cell] = before;
            return light;
        }

        private void countGroups() {
            Arrays.fill(greatest, 0);
            for (int m = 0; m < plate.lanes; m++) Arrays.fill(groups[m], 0);
            for (int h = 0; h < size; h++) {
                if (!isHeld[h]) continue;
                int[] row = outcome(h);
                for (int m = 0; m < plate.lanes; m++) {
                    groups[m][row[m]]++;
                    greatest[m] = Math.max(greatest[m], groups[m][row[m]]);
                }
            }
        }
    }

    /** Whose CELLS are. */
    private static final class Users {
        final Plate plate;
        final int[] owner = new int[CELLS];
        private final boolean[] isLit = new boolean[MOST_LANES];

        Users(Plate plate) {
            this.plate = plate;
            Arrays.fill(owner, NONE);
        }

        boolean bothReachedFrom(int start) {
            for (int lane = 0; lane < MOST_LANES; lane++) isLit[lane] = lane == start;
            int reached = 0;
            for (int cell = 0; cell < CELLS; cell++) {
                int lane = plate.lane[cell];
                if (lane == NONE || !(isLit[lane] || isLit[lane + 1])) continue;
                isLit[lane] = true;
                isLit[lane + 1] = true;
                if (owner[cell] != NONE) reached |= 1 << owner[cell];
            }
            return reached == (1 << USERS) - 1;
        }
    }
}
