import java.util.function.Supplier;

/** Boundary cases of the promises 1 to 7, sentence by sentence. */
public final class PlateBoundaryTest {
    private static final int MIN = Integer.MIN_VALUE;
    private static final int MAX = Integer.MAX_VALUE;

    private PlateBoundaryTest() {
    }

    public static void main(String[] args) {
        lanes();
        newObject();
        layersAndCells();
        turnsWrap();
        turnRefusals();
        setBounds();
        setFull();
        diesBounds();
        allDie();
        deadSettings();
        mendRefusals();
        cellRefusals();
        heat();
        creepIsCut();
        warmthStaysInItsLayer();
        trueTurnsWrap();
        tableRefusals();
        tableWraps();
        firstAndLastLayer();
        Checks.end();
    }

    private static void due(String what, long got, long want) {
        Checks.due(what, got, want);
    }

    private static LightPlate of(int n) {
        return new LightPlate(n - 2);
    }

    private static void lanes() {
        Checks.sentence(1, "n LANES (the constructor's number modulo 5, and 2)");
        int[][] lanes = {{0, 2}, {1, 3}, {2, 4}, {3, 5}, {4, 6}, {5, 2}, {6, 3}, {9, 6}, {10, 2}, {-1, 6}, {-2, 5},
            {-3, 4}, {-4, 3}, {-5, 2}, {-6, 6}, {MAX, 4}, {MAX - 2, 2}, {MAX - 3, 6}, {MIN, 4}, {MIN + 3, 2},
            {MIN + 2, 6}};
        for (int[] pair : lanes) {
            LightPlate x = new LightPlate(pair[0]);
            int n = pair[1];
            due("lanes of " + pair[0], x.count(0), n);
            due("the last lane of " + pair[0], x.table(n - 1, n - 1), 1);
            due("one lane more of " + pair[0], x.table(n, n), -1);
        }
    }

    private static void newObject() {
        Checks.sentence(1, "All SETTINGS 0, nothing DEAD.");
        for (int n = 2; n <= 6; n++) {
            LightPlate x = of(n);
            for (int layer = 0; layer < 12; layer++) {
                for (int i = layer % 2; i <= n - 2; i += 2) {
                    due("setting", x.cell(layer, i, 0), 0);
                    due("stuck turn", x.cell(layer, i, 1), -1);
                }
            }
            due("dead cells", x.count(1), 0);
            due("layers with something", x.count(6), 0);
        }
    }

    private static void layersAndCells() {
        Checks.sentence(3, "LAYERS 0 .. 11; i is even in even LAYERS, odd in odd ones; LANES i, i + 1");
        for (int n = 2; n <= 6; n++) {
            LightPlate x = of(n);
            int cells = 0;
            for (int layer = -3; layer <= 15; layer++) {
                for (int i = -3; i <= 9; i++) {
                    boolean inside = layer >= 0 && layer <= 11 && i >= 0 && i + 1 < n;
                    boolean there = inside && layer % 2 == i % 2;
                    int was = x.set(layer, i, 0);
                    due(n + " lanes, cell " + layer + "," + i, was, there ? 0 : -1);
                    if (was == 0) cells++;
                }
            }
            due("cells of " + n + " lanes", cells, 6 * (n - 1));
        }
    }

    private static void turnsWrap() {
        Checks.sentence(2, "C (what 0), S (1) of a TURN (any number, modulo 96)");
        LightPlate x = of(2);
        int[][] same = {{96, 0}, {97, 1}, {-1, 95}, {-95, 1}, {-96, 0}, {-97, 95}, {191, 95}, {192, 0}, {MAX, 31},
            {MAX - 31, 0}, {MAX - 32, 95}, {MIN, 64}, {MIN + 32, 0}, {MIN + 31, 95}};
        for (int[] pair : same) {
            due("C of " + pair[0], x.turn(pair[0], 0), x.turn(pair[1], 0));
            due("S of " + pair[0], x.turn(pair[0], 1), x.turn(pair[1], 1));
        }
        int[][] known = {{0, 1, 0}, {1, 22, 83}, {95, 22, 14}, {24, 0, 1}, {47, 75, 83}, {48, 96, 0}, {49, 75, 14},
            {72, 0, 96}};
        for (int[] k : known) {
            due("C of " + k[0], x.turn(k[0], 0), k[1]);
            due("S of " + k[0], x.turn(k[0], 1), k[2]);
        }
        Checks.sentence(2, "All numbers are 0 .. 96");
        for (int k = 0; k < 96; k++) {
            Checks.holds("C of " + k, x.turn(k, 0) >= 0 && x.turn(k, 0) <= 96);
            Checks.holds("S of " + k, x.turn(k, 1) >= 0 && x.turn(k, 1) <= 96);
        }
    }

    private static void turnRefusals() {
        Checks.sentence(2, "NONE");
        for (int what : new int[] {-1, 2, 3, MIN, MAX}) {
            Whole.refused("turn what " + what, Scenes.busy(3), x -> x.turn(5, what), -1);
        }
    }

    private static void setBounds() {
        Checks.sentence(3, "BAD: not 0 .. 95");
        LightPlate x = of(3);
        due("set 95", x.set(0, 0, 95), 0);
        due("set 0", x.set(0, 0, 0), 95);
        due("what it is", x.cell(0, 0, 0), 0);
        for (int k : new int[] {-1, 96, 97, -96, MIN, MAX}) {
            Whole.refused("set " + k, Scenes.busy(3), y -> y.set(0, 0, k), -2);
        }
        Checks.sentence(3, "NONE, ahead of BAD");
        for (int[] at : Scenes.noCells()) {
            Whole.refused("set at " + at[0] + "," + at[1], Scenes.busy(6), y -> y.set(at[0], at[1], 5), -1);
            due("set BAD at " + at[0] + "," + at[1], of(6).set(at[0], at[1], 96), -1);
        }
        for (int n = 2; n <= 6; n++) {
            due("the last lane of " + n, of(n).set(n % 2, n - 2, 5), 0);
            due("behind the last lane of " + n, of(n).set((n - 1) % 2, n - 1, 5), -1);
        }
    }

    private static void setFull() {
        Checks.sentence(3, "FULL: 60 ENTRIES");
        LightPlate x = of(2);
        for (int e = 0; e < 59; e++) x.set(2, 0, 1);
        due("the 60th", x.set(0, 0, 7), 0);
        due("the 61st", x.set(0, 0, 8), -4);
        due("entries", x.count(4), 60);
        due("the setting", x.cell(0, 0, 0), 7);
        LightPlate same = of(2);
        for (int e = 0; e < 60; e++) due("the same setting is an entry too", same.set(0, 0, 0), 0);
        due("the 61st of the same", same.set(0, 0, 0), -4);
        for (int k : new int[] {0, 95}) {
            Whole.refused("set " + k + " if full", Scenes.full(3), y -> y.set(0, 0, k), -4);
        }
        Checks.sentence(3, "NONE and BAD, ahead of FULL");
        Whole.refused("no cell, if full", Scenes.full(3), y -> y.set(0, 1, 5), -1);
        Whole.refused("no cell, no turn, if full", Scenes.full(3), y -> y.set(0, 1, 96), -1);
        Whole.refused("no turn, if full", Scenes.full(3), y -> y.set(0, 0, 96), -2);
    }

    private static void diesBounds() {
        Checks.sentence(4, "1 if it was not, else 0");
        LightPlate x = of(3);
        due("stuck at 0", x.dies(0, 0, 0), 1);
        due("stuck at 0 again", x.dies(0, 0, 0), 0);
        due("stuck at 95", x.dies(0, 0, 95), 0);
        due("stuck turn", x.cell(0, 0, 1), 95);
        due("one dead cell", x.count(1), 1);
        x.mend(0, 0);
        due("dies anew", x.dies(0, 0, 95), 1);
        Checks.sentence(4, "BAD");
        for (int k : new int[] {-1, 96, 97, MIN, MAX}) {
            Whole.refused("a living one at " + k, Scenes.busy(3), y -> y.dies(0, 0, k), -2);
            Whole.refused("a dead one at " + k, Scenes.busy(3), y -> y.dies(4, 0, k), -2);
        }
        Checks.sentence(4, "NONE, ahead of BAD");
        for (int[] at : Scenes.noCells()) {
            Whole.refused("dies at " + at[0] + "," + at[1], Scenes.busy(6), y -> y.dies(at[0], at[1], 5), -1);
            due("dies BAD at " + at[0] + "," + at[1], of(6).dies(at[0], at[1], -1), -1);
        }
        Checks.sentence(4, "a CELL that dies is no ENTRY");
        LightPlate full = Scenes.full(3).get();
        due("dies if full", full.dies(0, 0, 5), 1);
        due("is mended if full", full.mend(0, 0), 5);
    }

    private static void allDie() {
        Checks.sentence(4, "A CELL is DEAD: each, and all of them");
        for (int n = 2; n <= 6; n++) {
            LightPlate x = of(n);
            int dead = 0;
            for (int layer = 0; layer < 12; layer++) {
                for (int i = layer % 2; i <= n - 2; i += 2) {
                    due("dies " + layer + "," + i, x.dies(layer, i, 0), 1);
                    dead++;
                    due("dead cells", x.count(1), dead);
                }
            }
            due("all cells of " + n + " lanes", dead, 6 * (n - 1));
        }
    }

    private static void deadSettings() {
        Checks.sentence(5, "a SETTING of it is kept, but not done, till it is MENDED");
        LightPlate x = of(2);
        x.set(0, 0, 48);
        x.dies(0, 0, 0);
        due("stuck at 0", x.table(0, 0), 1);
        due("told while dead", x.set(0, 0, 24), 48);
        due("kept", x.cell(0, 0, 0), 24);
        due("not done", x.table(0, 0), 1);
        due("mended", x.mend(0, 0), 0);
        due("done then", x.table(1, 0), 1);
        due("living", x.cell(0, 0, 1), -1);
    }

    private static void mendRefusals() {
        Checks.sentence(5, "STATE: it is not DEAD");
        Whole.refused("one that never died", Scenes.busy(3), x -> x.mend(0, 0), -3);
        Supplier<LightPlate> mended = () -> {
            LightPlate x = of(3);
            x.dies(0, 0, 0);
            due("stuck at 0", x.mend(0, 0), 0);
            return x;
        };
        Whole.refused("one that is mended", mended, x -> x.mend(0, 0), -3);
        LightPlate y = of(3);
        y.dies(11, 1, 95);
        due("stuck at 95", y.mend(11, 1), 95);
        Checks.sentence(5, "NONE, ahead of STATE");
        for (int[] at : Scenes.noCells()) {
            Whole.refused("mend at " + at[0] + "," + at[1], Scenes.busy(6), x -> x.mend(at[0], at[1]), -1);
        }
    }

    private static void cellRefusals() {
        Checks.sentence(6, "1 the stuck TURN (NONE), 4 its USER (NONE)");
        LightPlate x = of(3);
        due("not dead", x.cell(0, 0, 1), -1);
        due("nobody's", x.cell(0, 0, 4), -1);
        x.dies(0, 0, 0);
        x.claim(0, 0, 0);
        due("stuck at 0", x.cell(0, 0, 1), 0);
        due("user 0", x.cell(0, 0, 4), 0);
        Checks.sentence(6, "NONE");
        for (int what : new int[] {-1, 5, 6, MIN, MAX}) {
            Whole.refused("cell what " + what, Scenes.busy(3), y -> y.cell(0, 0, what), -1);
        }
        for (int[] at : Scenes.noCells()) {
            for (int what = -1; what <= 5; what++) {
                due("cell at " + at[0] + "," + at[1] + " what " + what, of(6).cell(at[0], at[1], what), -1);
            }
        }
    }

    private static void heat() {
        Checks.sentence(6, "HEAT: way from 0: k, or 96 less k, the lesser; DEAD, the stuck TURN's");
        int[][] heats = {{0, 0}, {1, 1}, {47, 47}, {48, 48}, {49, 47}, {95, 1}};
        for (int[] pair : heats) {
            LightPlate x = of(2);
            x.set(0, 0, pair[0]);
            due("heat of " + pair[0], x.cell(0, 0, 2), pair[1]);
            x.set(0, 0, 20);
            x.dies(0, 0, pair[0]);
            due("heat of one stuck at " + pair[0], x.cell(0, 0, 2), pair[1]);
        }
    }

    /** In LAYER 0 of six LANES: the TRUE TURN of the CELL at 2 by those at 0 and 4. */
    private static int warmed(int above, int below, int creep) {
        LightPlate x = of(6);
        x.set(0, 0, above);
        x.set(0, 4, below);
        x.creep(creep);
        return x.cell(0, 2, 3);
    }

    private static void creepIsCut() {
        Checks.sentence(6, "HEAT of CELLS in its LAYER at LANES i - 2, i + 2, together, by CREEP, cut");
        int[][] cases = {{0, 0, 1, 0}, {9, 0, 10, 0}, {10, 0, 10, 1}, {19, 0, 10, 1}, {0, 9, 10, 0}, {0, 10, 10, 1},
            {5, 5, 10, 1}, {5, 4, 10, 0}, {9, 9, 10, 1}, {48, 48, 97, 0}, {48, 48, 96, 1}, {48, 48, 95, 1},
            {48, 47, 95, 1}, {48, 48, 99, 0}, {48, 48, 1, 0}, {48, 47, 1, 95}, {95, 95, 2, 1}, {95, 95, 3, 0}};
        for (int[] c : cases) due("by " + c[0] + ", " + c[1] + ", creep " + c[2], warmed(c[0], c[1], c[2]), c[3]);
        LightPlate x = of(6);
        x.set(0, 0, 48);
        x.set(0, 4, 48);
        due("by the creep of a new one, 99", x.cell(0, 2, 3), 0);
    }

    private static void warmthStaysInItsLayer() {
        Checks.sentence(6, "CELLS in its LAYER at LANES i - 2, i + 2: none above the first, none below the last");
        for (int n = 2; n <= 6; n++) {
            LightPlate x = of(n);
            x.creep(1);
            for (int layer = 0; layer < 12; layer++) {
                for (int i = layer % 2; i <= n - 2; i += 2) x.set(layer, i, 10);
            }
            for (int layer = 0; layer < 12; layer++) {
                for (int i = layer % 2; i <= n - 2; i += 2) {
                    int beside = (i - 2 >= 0 ? 1 : 0) + (i + 2 <= n - 2 ? 1 : 0);
                    due(n + " lanes, cell " + layer + "," + i, x.cell(layer, i, 3), 10 + 10 * beside);
                }
            }
        }
        LightPlate y = of(6);
        y.creep(1);
        y.set(5, 1, 30);
        due("the layer ahead", y.cell(4, 4, 3), 0);
        due("beside", y.cell(5, 3, 3), 30);
        due("the layer behind", y.cell(6, 0, 3), 0);
        due("itself", y.cell(5, 1, 3), 30);
    }

    private static void trueTurnsWrap() {
        Checks.sentence(6, "TRUE TURN: .. and its OFFSET, modulo 96; a DEAD one's: its stuck TURN");
        int[][] cases = {{95, 0, 95}, {95, 1, 0}, {95, 8, 7}, {88, 8, 0}, {87, 8, 95}, {0, -1, 95}, {0, -8, 88},
            {8, -8, 0}, {7, -8, 95}, {0, 0, 0}, {0, 8, 8}};
        for (int[] c : cases) {
            LightPlate x = of(2);
            x.set(10, 0, c[0]);
            x.offset(10, 0, c[1]);
            due("setting " + c[0] + ", offset " + c[1], x.cell(10, 0, 3), c[2]);
            x.dies(10, 0, 95);
            due("dead, with offset " + c[1], x.cell(10, 0, 3), 95);
        }
        LightPlate y = of(6);
        y.creep(1);
        y.set(0, 0, 48);
        y.set(0, 4, 48);
        y.set(0, 2, 95);
        y.offset(0, 2, 8);
        due("95 and 96 and 8", y.cell(0, 2, 3), 7);
        y.dies(0, 2, 0);
        due("stuck at 0", y.cell(0, 2, 3), 0);
    }

    private static void tableRefusals() {
        Checks.sentence(7, "NONE: lanes");
        for (int n = 2; n <= 6; n++) {
            int[] none = {-1, n, n + 1, MIN, MAX};
            for (int lane : none) {
                due(n + " lanes, row " + lane, of(n).table(lane, 0), -1);
                due(n + " lanes, column " + lane, of(n).table(0, lane), -1);
                due(n + " lanes, both " + lane, of(n).table(lane, lane), -1);
            }
            due(n + " lanes, the last ones", of(n).table(n - 1, n - 1), 1);
            due(n + " lanes, corner", of(n).table(n - 1, 0), 0);
        }
        Whole.refused("no row", Scenes.busy(3), x -> x.table(3, 0), -1);
        Whole.refused("no column", Scenes.busy(3), x -> x.table(0, -1), -1);
    }

    private static void tableWraps() {
        Checks.sentence(7, "all sums, differences, products modulo 97");
        LightPlate x = of(2);
        x.set(0, 0, 24);
        due("0 less 1", x.table(0, 1), 96);
        due("S", x.table(1, 0), 1);
        x.set(2, 0, 24);
        due("twice a quarter", x.table(0, 0), 96);
        due("twice a quarter, below", x.table(1, 1), 96);
        x.set(4, 0, 48);
        due("a full turn", x.table(0, 0), 1);
        due("a full turn, beside", x.table(0, 1), 0);
        LightPlate y = of(2);
        for (int layer = 0; layer < 12; layer += 2) y.set(layer, 0, 95);
        due("six times 95 is 90", y.table(1, 0), y.turn(90, 1));
    }

    private static void firstAndLastLayer() {
        Checks.sentence(7, "Light goes through LAYERS 0, 1, .. one behind the other");
        LightPlate x = of(3);
        x.set(0, 0, 24);
        x.set(11, 1, 24);
        due("by layer 0 and then 11", x.table(2, 0), 1);
        due("not by 11 and then 0", x.table(0, 2), 0);
        LightPlate y = of(3);
        y.set(1, 1, 24);
        y.set(2, 0, 24);
        due("by layer 1 and then 2", y.table(0, 2), 1);
        due("not by 2 and then 1", y.table(2, 0), 0);
    }
}
