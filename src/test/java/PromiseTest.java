/** Promises 1 to 31 one by one: ordinary inputs, the edges that the document names, and wrong inputs. */
public final class PromiseTest {
    private static final int MIN = Integer.MIN_VALUE;
    private static final int MAX = Integer.MAX_VALUE;

    private PromiseTest() {
    }

    public static void main(String[] args) {
        newObject();
        turn();
        set();
        setIsFull();
        dies();
        mend();
        cell();
        table();
        entry();
        take();
        right();
        split();
        step();
        undo();
        work();
        feed();
        creep();
        offset();
        run();
        out();
        count();
        refusalsChangeNothing();
        Checks.end();
    }

    /** n LANES, 2 to 6. */
    static LightPlate lanes(int n) {
        return new LightPlate(n - 2);
    }

    private static void due(String what, long got, long want) {
        Checks.due(what, got, want);
    }

    private static void newObject() {
        int[][] lanes = {{0, 2}, {4, 6}, {5, 2}, {1, 3}, {-1, 6}, {-5, 2}, {MAX, 4}, {MIN, 4}};
        for (int[] pair : lanes) due("lanes of " + pair[0], new LightPlate(pair[0]).count(0), pair[1]);
        LightPlate x = lanes(6);
        Checks.same("settings of a new one", Checks.settings(x), "");
        for (int what = 1; what <= 6; what++) due("count(" + what + ") of a new one", x.count(what), 0);
        due("creep of a new one", x.count(7), 99);
        for (int r = 0; r < 6; r++) {
            for (int c = 0; c < 6; c++) due("table of a new one", x.table(r, c), r == c ? 1 : 0);
        }
        due("stuck", x.cell(3, 1, 1), -1);
        due("user", x.cell(3, 1, 4), -1);
        due("told entry", x.entry(5, 5, 1), 0);
        due("NONE", LightPlate.NONE, -1);
        due("BAD", LightPlate.BAD, -2);
        due("STATE", LightPlate.STATE, -3);
        due("FULL", LightPlate.FULL, -4);
    }

    private static void turn() {
        LightPlate x = lanes(2);
        int[][] known = {{0, 1, 0}, {1, 22, 83}, {2, 94, 63}, {24, 0, 1}, {48, 96, 0}, {72, 0, 96}, {95, 22, 14}};
        for (int[] k : known) {
            for (int round : new int[] {0, 96, -96, 96 * 20000000, -96 * 20000000}) {
                due("C of " + (k[0] + round), x.turn(k[0] + round, 0), k[1]);
                due("S of " + (k[0] + round), x.turn(k[0] + round, 1), k[2]);
            }
        }
        for (int k = 0; k < 96; k++) {
            int c = x.turn(k, 0);
            int s = x.turn(k, 1);
            due("C C and S S of " + k, (c * c + s * s) % 97, 1);
            due("C of " + k + " and 1", x.turn(k + 1, 0), Math.floorMod(c * 22 - s * 83, 97));
            due("S of " + k + " and 1", x.turn(k + 1, 1), (s * 22 + c * 83) % 97);
        }
        due("turn what 2", x.turn(0, 2), -1);
        due("turn what -1", x.turn(0, -1), -1);
        due("turn of the least number", x.turn(MIN, 0), x.turn(Math.floorMod(MIN, 96), 0));
    }

    private static void set() {
        LightPlate x = lanes(6);
        due("set", x.set(0, 4, 95), 0);
        due("set again", x.set(0, 4, 7), 95);
        due("set 0", x.set(0, 4, 0), 7);
        due("last layer", x.set(11, 3, 1), 0);
        due("entries", x.count(4), 4);
        int[][] none = {{0, 1}, {1, 0}, {1, 5}, {0, 5}, {0, 6}, {0, -1}, {1, -1}, {-1, 1}, {-1, 0}, {12, 0}, {MAX, 1},
            {0, MAX}, {MIN, 0}, {0, MIN}, {1, MAX}, {-2, 0}};
        for (int[] c : none) {
            due("set at " + c[0] + "," + c[1], x.set(c[0], c[1], 5), -1);
            due("set BAD at none", x.set(c[0], c[1], 96), -1);
        }
        due("set 96", x.set(0, 0, 96), -2);
        due("set -1", x.set(0, 0, -1), -2);
        due("entries still", x.count(4), 4);
        due("odd layers of 2 lanes", lanes(2).set(1, 1, 5), -1);
        x.dies(2, 2, 9);
        due("set of a dead one", x.set(2, 2, 30), 0);
        due("is kept", x.cell(2, 2, 0), 30);
        due("is not done", x.table(2, 2), x.turn(9, 0));
        x.mend(2, 2);
        due("is done then", x.table(2, 2), x.turn(30, 0));
    }

    private static void setIsFull() {
        LightPlate x = lanes(2);
        for (int e = 0; e < 59; e++) due("set " + e, x.set(0, 0, (e + 1) % 96), e);
        due("found as the 60th", x.found(0, 0, 1, 0), 60);
        due("set beyond", x.set(0, 0, 3), -4);
        due("found beyond", x.found(0, 0, 1, 0), -4);
        due("set beyond, NONE", x.set(0, 1, 3), -1);
        due("set beyond, BAD", x.set(0, 0, 96), -2);
        due("found beyond, BAD", x.found(0, 0, 9, 0), -2);
        due("entries", x.count(4), 60);
        due("the setting stays", x.cell(0, 0, 0), 59);
    }

    private static void dies() {
        LightPlate x = lanes(3);
        due("dies", x.dies(0, 0, 95), 1);
        due("dies again", x.dies(0, 0, 0), 0);
        due("stuck", x.cell(0, 0, 1), 0);
        due("dead cells", x.count(1), 1);
        due("dies at none", x.dies(0, 1, 5), -1);
        due("dies BAD at none", x.dies(0, 1, 96), -1);
        due("dies 96", x.dies(0, 0, 96), -2);
        due("dies -1", x.dies(0, 0, -1), -2);
        due("stuck still", x.cell(0, 0, 1), 0);
        x.set(0, 0, 24);
        due("stuck at 0", x.table(0, 0), 1);
        x.dies(0, 0, 48);
        due("stuck at 48", x.table(0, 0), 96);
    }

    private static void mend() {
        LightPlate x = lanes(3);
        x.set(1, 1, 24);
        due("not dead", x.mend(1, 1), -3);
        x.dies(1, 1, 0);
        due("mend", x.mend(1, 1), 0);
        due("mend twice", x.mend(1, 1), -3);
        due("mend at none", x.mend(1, 0), -1);
        due("mend at layer 12", x.mend(12, 0), -1);
        due("the setting is done", x.table(2, 1), 1);
        due("dead cells", x.count(1), 0);
    }

    private static void cell() {
        LightPlate x = lanes(6);
        x.creep(10);
        x.set(0, 0, 40);
        x.set(0, 2, 95);
        x.set(0, 4, 90);
        due("heat 40", x.cell(0, 0, 2), 40);
        due("heat 90", x.cell(0, 4, 2), 6);
        due("warmth of both sides, together, cut", x.cell(0, 2, 3), (95 + 4) % 96);
        due("warmth of one side", x.cell(0, 0, 3), 40);
        x.set(0, 2, 48);
        due("heat 48", x.cell(0, 2, 2), 48);
        due("warmth of the middle", x.cell(0, 0, 3), 44);
        due("warmth of the middle, below", x.cell(0, 4, 3), 94);
        due("no warmth between layers", x.cell(2, 2, 3), 0);
        x.dies(0, 0, 50);
        due("heat of a dead one", x.cell(0, 0, 2), 46);
        due("a dead one's true turn", x.cell(0, 0, 3), 50);
        due("setting of a dead one", x.cell(0, 0, 0), 40);
        due("stuck turn", x.cell(0, 0, 1), 50);
        due("warmth of a dead one", x.cell(0, 2, 3), 48 + 5);
        x.offset(0, 2, -8);
        due("offset", x.cell(0, 2, 3), 48 + 5 - 8);
        x.offset(0, 0, 3);
        due("offset of a dead one", x.cell(0, 0, 3), 50);
        x.offset(4, 0, -1);
        due("offset below 0", x.cell(4, 0, 3), 95);
        x.offset(1, 1, 8);
        x.set(1, 1, 90);
        due("offset above 95", x.cell(1, 1, 3), 2);
        x.creep(1);
        due("warmth by 1", x.cell(1, 3, 3), 6);
        due("user", x.cell(0, 0, 4), -1);
        x.claim(1, 0, 0);
        due("user 1", x.cell(0, 0, 4), 1);
        for (int what : new int[] {-1, 5, MAX, MIN}) due("cell what", x.cell(0, 0, what), -1);
        due("cell at none", x.cell(0, 1, 0), -1);
        due("cell at lane 5", x.cell(1, 5, 0), -1);
    }

    private static void table() {
        LightPlate x = lanes(4);
        x.set(0, 0, 24);
        x.set(0, 2, 24);
        x.set(1, 1, 24);
        int[][] due = {{0, 96, 0, 0}, {0, 0, 0, 1}, {1, 0, 0, 0}, {0, 0, 1, 0}};
        for (int r = 0; r < 4; r++) {
            for (int c = 0; c < 4; c++) due("table " + r + "," + c, x.table(r, c), due[r][c]);
        }
        x.offset(0, 0, 5);
        x.creep(1);
        due("by settings alone", x.table(0, 1), 96);
        x.dies(1, 1, 0);
        due("by stuck turns", x.table(1, 0), 1);
        for (int lane : new int[] {-1, 4, MAX, MIN}) {
            due("table row " + lane, x.table(lane, 0), -1);
            due("table column " + lane, x.table(0, lane), -1);
        }
    }

    private static void entry() {
        LightPlate x = lanes(2);
        due("entry", x.entry(1, 0, 96), 0);
        due("entry again", x.entry(1, 0, 0), 96);
        due("another one", x.entry(0, 1, 5), 0);
        due("entry 97", x.entry(1, 0, 97), -2);
        due("entry -1", x.entry(1, 0, -1), -2);
        due("entry of row 2", x.entry(2, 0, 97), -1);
        due("entry of column 2", x.entry(0, 2, 1), -1);
        due("entry of row -1", x.entry(-1, 0, 1), -1);
        due("entry of column -1", x.entry(0, -1, 1), -1);
        due("entry still", x.entry(1, 0, 1), 0);
        due("the table of the plate is not told", x.table(0, 0), 1);
    }

    private static void take() {
        LightPlate x = lanes(3);
        due("take", x.take(), 1);
        due("take again", x.take(), 0);
        due("told entry", x.entry(2, 2, 2), 1);
        due("take another", x.take(), 1);
        x.set(1, 1, 24);
        due("take a turn", x.take(), 1);
        due("row 1, column 2", x.entry(1, 2, 0), 96);
        due("row 2, column 1", x.entry(2, 1, 0), 1);
        x.offset(1, 1, 5);
        x.take();
        due("offsets are not in it", x.take(), 0);
        x.dies(1, 1, 0);
        due("stuck turns are", x.take(), 1);
    }

    private static void right() {
        LightPlate x = lanes(3);
        due("all 0", x.right(), 0);
        for (int i = 0; i < 3; i++) x.entry(i, i, i == 1 ? 96 : 1);
        due("a diagonal of 1 and 96", x.right(), 1);
        x.entry(0, 2, 1);
        due("columns that meet", x.right(), 0);
        x.entry(0, 2, 0);
        x.entry(2, 2, 22);
        due("a column of -1", x.right(), 0);
        x.entry(2, 2, 0);
        x.entry(2, 1, 1);
        x.entry(1, 1, 0);
        x.entry(1, 2, 1);
        due("columns that are changed", x.right(), 1);
        LightPlate first = lanes(2);
        first.entry(0, 0, 2);
        first.entry(1, 1, 1);
        due("only the first column is not of 1", first.right(), 0);
        LightPlate y = lanes(2);
        y.entry(0, 0, 1);
        y.entry(0, 1, 22);
        y.entry(1, 1, 1);
        due("columns that meet, one of length 0", y.right(), 0);
    }

    private static void split() {
        LightPlate x = lanes(2);
        due("split of all 0", x.split(), 1);
        due("its turn", x.step(0, 1), 0);
        due("its sign", x.step(0, 2), 0);
        x.entry(1, 0, 1);
        x.entry(0, 1, 96);
        due("split of a quarter", x.split(), 1);
        due("its turn", x.step(0, 1), 24);
        due("its signs", x.step(0, 2) * 100 + x.step(1, 2), 9696);
        due("the told table stays", x.entry(1, 0, 1), 1);
        x.entry(0, 0, 22);
        due("split that lacks", x.split(), -10);
        due("no step of it", x.step(0, 0), -1);
        LightPlate y = lanes(3);
        y.entry(0, 0, 22);
        y.entry(1, 0, 1);
        due("split that lacks step 1", y.split(), -11);
        due("step 0 of it", y.step(0, 0), 1);
        due("step 1 of it", y.step(1, 0), -1);
        LightPlate z = triangle(6, 89);
        due("15 steps", z.split(), 15);
        int i = 0;
        for (int c = 0; c < 5; c++) {
            for (int r = 5; r > c; r--) {
                due("upper lane of step " + i, z.step(i, 0), r - 1);
                due("turn of step " + i, z.step(i, 1), 7);
                i++;
            }
        }
        for (int lane = 0; lane < 6; lane++) due("sign of lane " + lane, z.step(lane, 2), 1);
    }

    /** A plate whose table is split into turns that are all above 0, told already. */
    private static LightPlate triangle(int n, int k) {
        LightPlate x = lanes(n);
        int[] free = new int[n];
        for (int c = n - 2; c >= 0; c--) {
            for (int i = c; i <= n - 2; i++) {
                int layer = Math.max(free[i], free[i + 1]);
                if ((layer + i) % 2 == 1) layer++;
                due("a cell of the triangle", x.set(layer, i, k), 0);
                free[i] = layer + 1;
                free[i + 1] = layer + 1;
            }
        }
        x.take();
        return x;
    }

    private static void step() {
        LightPlate x = lanes(2);
        for (int what = 0; what < 3; what++) due("step ahead of a split", x.step(0, what), -1);
        x.take();
        x.split();
        due("upper lane", x.step(0, 0), 0);
        due("step 1", x.step(1, 0), -1);
        due("turn of step 1", x.step(1, 1), -1);
        due("sign of lane 1", x.step(1, 2), 1);
        due("sign of lane 2", x.step(2, 2), -1);
        due("sign of lane -1", x.step(-1, 2), -1);
        due("step -1", x.step(-1, 0), -1);
        due("what 3", x.step(0, 3), -1);
        due("what -1", x.step(0, -1), -1);
        x.entry(0, 0, 5);
        due("the latest split() it is of", x.step(0, 2), 1);
        x.entry(0, 0, 22);
        x.entry(1, 0, 1);
        x.split();
        due("signs if a step lacked", x.step(0, 2), -1);
        LightPlate y = lanes(6);
        y.take();
        y.split();
        due("sign of lane 6", y.step(6, 2), -1);
        due("step 14", y.step(14, 0), 4);
        due("step 15", y.step(15, 0), -1);
    }

    private static void undo() {
        LightPlate x = lanes(2);
        due("undo ahead of a split", x.undo(), -3);
        x.take();
        x.split();
        due("undo of nothing", x.undo(), 0);
        x.set(0, 0, 90);
        x.take();
        due("undo of the split ahead", x.undo(), 0);
        x.split();
        due("undo", x.undo(), 1);
        Checks.same("its works", Checks.works(x), "0:90");
        x.entry(0, 0, 22);
        x.entry(1, 0, 1);
        x.split();
        due("undo if a step lacked", x.undo(), -3);
        Checks.same("works stay", Checks.works(x), "0:90");
        LightPlate y = triangle(5, 50);
        y.split();
        due("undo of ten", y.undo(), 10);
        Checks.same("the last one first", Checks.works(y), "3:50 2:50 3:50 1:50 2:50 3:50 0:50 1:50 2:50 3:50");
        LightPlate z = triangle(6, 7);
        Checks.program(z, "t 1 3");
        z.split();
        due("undo of fifteen", z.undo(), -4);
        Checks.same("works stay", Checks.works(z), "1:3");
        LightPlate least = triangle(6, 95);
        least.split();
        due("undo of fifteen by 1", least.undo(), -4);
        LightPlate few = lanes(6);
        Checks.program(few, "s 0;s 1;s 2");
        few.set(1, 3, 95);
        few.take();
        few.split();
        due("undo of one of fifteen steps", few.undo(), 1);
        Checks.same("nothing of the works ahead is left", Checks.works(few), "3:95");
    }

    private static void work() {
        LightPlate x = lanes(4);
        due("work of none", x.work(0, 0), -1);
        Checks.program(x, "t 2 95;u 1 0");
        due("lane", x.work(0, 0), 2);
        due("turn", x.work(0, 1), 95);
        due("turn of u 0", x.work(1, 1), 0);
        due("work 2", x.work(2, 0), -1);
        due("work -1", x.work(-1, 0), -1);
        due("what 2", x.work(0, 2), -1);
        due("what -1", x.work(0, -1), -1);
        due("the greatest", x.work(MAX, 0), -1);
    }

    private static void feed() {
        LightPlate x = lanes(2);
        due("n 0", x.feed(0, 0), -2);
        due("n 9", x.feed(0, 9), -2);
        due("n -1", x.feed(0, -1), -2);
        due("n least", x.feed(0, MIN), -2);
        for (int i = 1; i <= 12; i++) due("feed " + i, x.feed(-1, 8), 8 * i);
        due("beyond 100", x.feed(0, 5), -4);
        due("n 9 is BAD first", x.feed(0, 9), -2);
        due("up to 100", x.feed(0, 4), 100);
        due("one more", x.feed(0, 1), -4);
        due("bytes", x.count(5), 100);
        LightPlate y = lanes(2);
        due("higher bytes are left out", y.feed(0x1122334455732030L, 3), 3);
        due("the highest first", y.program(), 1);
        Checks.same("s 0", Checks.works(y), "0:24");
    }

    private static void creep() {
        LightPlate x = lanes(2);
        due("creep", x.creep(1), 99);
        due("creep again", x.creep(99), 1);
        due("creep 0", x.creep(0), -2);
        due("creep 100", x.creep(100), -2);
        due("creep least", x.creep(MIN), -2);
        due("creep stays", x.count(7), 99);
    }

    private static void offset() {
        LightPlate x = lanes(2);
        due("offset", x.offset(2, 0, -8), 0);
        due("offset again", x.offset(2, 0, 8), -8);
        due("offset 9", x.offset(2, 0, 9), -2);
        due("offset -9", x.offset(2, 0, -9), -2);
        due("offset of none", x.offset(1, 0, 9), -1);
        due("offset stays", x.offset(2, 0, 0), 8);
        due("it is no entry", x.count(4), 0);
    }

    private static void run() {
        LightPlate x = lanes(2);
        due("run", x.run(96 + 97 * 5), 0);
        due("out 0", x.out(0, 0), 96);
        due("out 1", x.out(0, 1), 5);
        due("below 0", x.run(-1), -2);
        due("least", x.run(Long.MIN_VALUE), -2);
        due("a digit more", x.run(97 * 97), -2);
        due("greatest", x.run(Long.MAX_VALUE), -2);
        due("the greatest there is", x.run(97 * 97 - 1), 1);
        x.set(0, 0, 20);
        x.offset(0, 0, 4);
        x.run(3 + 97 * 7);
        due("by true turns", x.out(2, 0), 90);
        due("by true turns, below", x.out(2, 1), 3);
        for (int r = 3; r < 40; r++) due("run " + r, x.run(r), r);
        due("run 40", x.run(0), -4);
        due("run 40, BAD first", x.run(-1), -2);
        due("runs", x.count(3), 40);
        LightPlate y = lanes(6);
        due("six digits", y.run(97L * 97 * 97 * 97 * 97 * 97 - 1), 0);
        due("seven digits", y.run(97L * 97 * 97 * 97 * 97 * 97), -2);
        due("lane 5", y.out(0, 5), 96);
    }

    private static void out() {
        LightPlate x = lanes(3);
        due("out of no run", x.out(0, 0), -1);
        x.run(1);
        x.set(0, 0, 24);
        due("out stays", x.out(0, 0), 1);
        due("run 1", x.out(1, 0), -1);
        due("run -1", x.out(-1, 0), -1);
        due("lane 3", x.out(0, 3), -1);
        due("lane -1", x.out(0, -1), -1);
        due("reworked run 1", x.reworked(1, 0), -1);
        due("reworked run -1", x.reworked(-1, 0), -1);
        due("reworked lane 3", x.reworked(0, 3), -1);
        due("reworked lane -1", x.reworked(0, -1), -1);
    }

    private static void count() {
        LightPlate x = lanes(6);
        x.set(0, 0, 1);
        x.set(0, 2, 3);
        x.set(3, 1, 0);
        x.dies(4, 0, 0);
        x.dies(4, 4, 0);
        x.set(5, 1, 1);
        x.dies(5, 1, 1);
        Checks.program(x, "3(t 0 1)");
        x.run(1);
        x.run(1);
        x.found(0, 0, 1, 0);
        x.creep(7);
        x.feed(0, 5);
        int[] due = {6, 3, 3, 2, 5, 5, 3, 7};
        for (int what = 0; what < 8; what++) due("count(" + what + ")", x.count(what), due[what]);
        for (int what : new int[] {-1, 8, MAX, MIN}) due("count what " + what, x.count(what), -1);
    }

    private static String state(LightPlate x) {
        StringBuilder text = new StringBuilder();
        for (int what = 0; what < 8; what++) text.append(x.count(what)).append(' ');
        for (int l = 0; l < 12; l++) {
            for (int i = l % 2; i < 5; i += 2) {
                for (int what = 0; what < 5; what++) text.append(x.cell(l, i, what)).append(' ');
            }
        }
        for (int i = 0; i < 15; i++) {
            text.append(x.step(i, 1)).append(' ').append(x.work(i, 1)).append(' ').append(x.out(i, 0)).append(' ');
            text.append(x.reworked(i, 1)).append(' ').append(x.held(i)).append(' ');
        }
        return text.append(x.since()).append(' ').append(x.meeting()).append(' ').append(x.next()).toString();
    }

    private static void refusalsChangeNothing() {
        LightPlate x = lanes(6);
        x.set(0, 0, 30);
        x.set(1, 1, 20);
        x.dies(2, 2, 7);
        x.creep(5);
        x.offset(3, 3, 2);
        x.run(12345);
        x.found(0, 0, 1, 0);
        x.take();
        x.split();
        Checks.program(x, "t 0 1;t 1 2");
        x.probing();
        x.probe(0, 0);
        x.claim(0, 0, 0);
        x.claim(1, 1, 1);
        String before = state(x);
        int[] refused = {x.set(0, 1, 1), x.set(0, 0, 96), x.dies(2, 1, 1), x.dies(2, 2, 96), x.mend(0, 0), x.mend(0, 1),
            x.entry(0, 6, 1), x.entry(0, 0, 97), x.feed(0, 9), x.creep(0), x.creep(100), x.offset(0, 1, 1),
            x.offset(3, 3, 9), x.run(-1), x.run(Long.MAX_VALUE), x.found(0, 1, 1, 0), x.found(0, 0, 9, 0),
            x.found(0, 0, 1, 2), x.found(0, 0, 1, -1), x.probe(0, 6), x.probe(-1, 0), x.held(999), x.held(-2),
            x.claim(1, 0, 0), x.claim(2, 0, 0), x.claim(-2, 0, 0), x.claim(0, 0, 1), x.lay()};
        for (int answer : refused) Checks.holds("refused: " + answer, answer < 0);
        Checks.same("state", state(x), before);
    }
}
