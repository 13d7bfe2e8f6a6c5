import java.util.function.Supplier;

/** Boundary cases of the promises 8 to 14 (a told table, its split and its works), sentence by sentence. */
public final class ToldBoundaryTest {
    private static final int MIN = Integer.MIN_VALUE;
    private static final int MAX = Integer.MAX_VALUE;

    private ToldBoundaryTest() {
    }

    public static void main(String[] args) {
        entryBounds();
        entryRefusals();
        takeOneEntry();
        rightByOneEntry();
        rightWraps();
        numbersOfSteps();
        lacks();
        leastTurns();
        signs();
        stepRefusals();
        latestSplit();
        undoStates();
        undoTen();
        undoLeavesZeros();
        workRefusals();
        Checks.end();
    }

    private static void due(String what, long got, long want) {
        Checks.due(what, got, want);
    }

    private static LightPlate of(int n) {
        return new LightPlate(n - 2);
    }

    /** A told table of 1 on the diagonal and 0 else. */
    private static LightPlate diagonal(int n) {
        LightPlate x = of(n);
        due("the table of a new one is told", x.take(), 1);
        return x;
    }

    private static void entryBounds() {
        Checks.sentence(8, "0 of all at first; what it was; BAD: not 0 .. 96");
        for (int n = 2; n <= 6; n++) {
            LightPlate x = of(n);
            for (int r = 0; r < n; r++) {
                for (int c = 0; c < n; c++) {
                    due("at first", x.entry(r, c, 96), 0);
                    due("96", x.entry(r, c, 0), 96);
                    due("0", x.entry(r, c, r * n + c), 0);
                }
            }
            for (int r = 0; r < n; r++) {
                for (int c = 0; c < n; c++) due("each has its own", x.entry(r, c, 0), r * n + c);
            }
        }
        for (int v : new int[] {-1, 97, 98, -97, MIN, MAX}) {
            Whole.refused("entry of " + v, Scenes.busy(3), x -> x.entry(2, 0, v), -2);
        }
    }

    private static void entryRefusals() {
        Checks.sentence(8, "NONE, ahead of BAD");
        for (int n = 2; n <= 6; n++) {
            for (int lane : new int[] {-1, n, MIN, MAX}) {
                due("row " + lane, of(n).entry(lane, 0, 1), -1);
                due("column " + lane, of(n).entry(0, lane, 1), -1);
                due("row " + lane + ", BAD", of(n).entry(lane, 0, 97), -1);
                due("column " + lane + ", BAD", of(n).entry(0, lane, -1), -1);
            }
        }
        Whole.refused("row 3", Scenes.busy(3), x -> x.entry(3, 0, 5), -1);
        Whole.refused("column 3", Scenes.busy(3), x -> x.entry(0, 3, 5), -1);
        Whole.refused("row -1", Scenes.busy(3), x -> x.entry(-1, 0, 5), -1);
        Whole.refused("column -1", Scenes.busy(3), x -> x.entry(0, -1, 5), -1);
    }

    private static void takeOneEntry() {
        Checks.sentence(9, "1 if some entry is another then, else 0");
        for (int n = 2; n <= 6; n++) {
            LightPlate x = diagonal(n);
            due("nothing another", x.take(), 0);
            for (int r = 0; r < n; r++) {
                for (int c = 0; c < n; c++) {
                    x.entry(r, c, 7);
                    due("one entry, " + r + "," + c, x.take(), 1);
                    due("it became that of the table", x.entry(r, c, r == c ? 1 : 0), r == c ? 1 : 0);
                }
            }
            due("all the same again", x.take(), 0);
        }
    }

    private static void rightByOneEntry() {
        Checks.sentence(10, "of any two columns the products come to 0 together, and each one's with itself to 1");
        due("nothing told yet", of(2).right(), 0);
        for (int n = 2; n <= 6; n++) {
            LightPlate x = diagonal(n);
            due("diagonal of " + n, x.right(), 1);
            for (int r = 0; r < n; r++) {
                for (int c = 0; c < n; c++) {
                    int was = x.entry(r, c, 2);
                    due("one entry off, " + r + "," + c, x.right(), 0);
                    x.entry(r, c, was);
                    due("and back", x.right(), 1);
                }
            }
            for (int i = 0; i < n; i++) {
                x.entry(i, i, 0);
                due("a column of 0", x.right(), 0);
                x.entry(i, i, 96);
                due("96 on the diagonal", x.right(), 1);
            }
        }
        LightPlate y = of(2);
        y.entry(0, 0, 1);
        y.entry(0, 1, 1);
        due("each with itself 1, together 1", y.right(), 0);
        Checks.sentence(10, "of any two columns: that pair alone");
        for (int a = 0; a < 6; a++) {
            for (int b = 0; b < a; b++) onePairMeets(a, b);
        }
    }

    /** Column a becomes column b, or lies in a row of its own: each with itself 1, all other pairs 0. */
    private static void onePairMeets(int a, int b) {
        LightPlate x = diagonal(6);
        x.entry(a, a, 0);
        x.entry(b, a, 1);
        due("columns " + a + " and " + b, x.right(), 0);
        x.entry(b, a, 0);
        x.entry(a, a, 96);
        due("parted again", x.right(), 1);
    }

    private static void rightWraps() {
        Checks.sentence(10, "sums and products modulo 97");
        LightPlate x = of(2);
        x.entry(0, 0, 7);
        x.entry(1, 0, 7);
        x.entry(0, 1, 7);
        x.entry(1, 1, 90);
        due("49 and 49 is 1, 49 and 630 is 0", x.right(), 1);
        x.entry(1, 1, 89);
        due("one less", x.right(), 0);
        LightPlate y = of(2);
        y.entry(0, 0, 22);
        y.entry(1, 1, 22);
        due("22 times 22 is 96", y.right(), 0);
    }

    private static void numbersOfSteps() {
        Checks.sentence(11, "for columns c 0 .. n - 2, for rows r n - 1 .. c + 1; how many STEPS are done");
        int[] steps = {1, 3, 6, 10, 15};
        for (int n = 2; n <= 6; n++) {
            LightPlate x = of(n);
            due("of all 0", x.split(), steps[n - 2]);
            due("of the diagonal", diagonal(n).split(), steps[n - 2]);
            int i = 0;
            for (int c = 0; c <= n - 2; c++) {
                for (int r = n - 1; r >= c + 1; r--) {
                    due("upper lane of step " + i, x.step(i, 0), r - 1);
                    due("turn of step " + i, x.step(i, 1), 0);
                    i++;
                }
            }
            due("a step more", x.step(i, 0), -1);
        }
    }

    /** 22 times 22 and 1 times 1 is 0: no TURN makes the lower one of such a pair 0. */
    private static void lacks() {
        for (int n = 2; n <= 6; n++) {
            int step = 0;
            for (int c = 0; c <= n - 2; c++) {
                for (int r = n - 1; r >= c + 1; r--) {
                    lacksAt(n, c, r, step);
                    step++;
                }
            }
        }
        Checks.sentence(11, "the first STEP for which there is none");
        LightPlate x = of(3);
        for (int c = 0; c < 2; c++) {
            x.entry(1, c, 22);
            x.entry(2, c, 1);
        }
        due("two that lack", x.split(), -10);
    }

    private static void lacksAt(int n, int c, int r, int step) {
        Checks.sentence(11, "-10 less LACK: the number of the first STEP for which there is none");
        LightPlate x = of(n);
        x.entry(r - 1, c, 22);
        x.entry(r, c, 1);
        due(n + " lanes, step " + step + " lacks", x.split(), -10 - step);
        Checks.sentence(12, "NONE: a STEP lacked");
        for (int i = 0; i < n; i++) due("sign of lane " + i, x.step(i, 2), -1);
        due("the step that lacks", x.step(step, 0), -1);
        due("its turn", x.step(step, 1), -1);
        for (int i = 0; i < step; i++) due("a step ahead", x.step(i, 1), 0);
        Checks.sentence(13, "STATE: a STEP lacked");
        due("undo", x.undo(), -3);
        x.entry(r - 1, c, 0);
        x.entry(r, c, 0);
        due("told anew", x.split(), n * (n - 1) / 2);
        due("undo of it", x.undo(), 0);
    }

    private static void leastTurns() {
        Checks.sentence(11, "the least TURN k by which the lower one is 0");
        int[][] turns = {{0, 0}, {1, 47}, {2, 46}, {24, 24}, {47, 1}, {48, 0}, {49, 47}, {72, 24}, {94, 2}, {95, 1}};
        for (int[] pair : turns) {
            LightPlate x = of(2);
            x.set(0, 0, pair[0]);
            x.take();
            due("split of " + pair[0], x.split(), 1);
            due("turn of it", x.step(0, 1), pair[1]);
            Checks.sentence(13, "each by 96 less k (those by 0 left out; SIGNS not looked at)");
            due("undo of " + pair[0], x.undo(), pair[1] == 0 ? 0 : 1);
            due("work of it", x.work(0, 1), pair[1] == 0 ? -1 : 96 - pair[1]);
        }
        LightPlate y = of(2);
        y.entry(1, 0, 96);
        due("0 and 96", y.split(), 1);
        due("turn of it", y.step(0, 1), 24);
    }

    private static void signs() {
        Checks.sentence(12, "SIGNS: what stands on the diagonal then (1 or 96 each, if it is RIGHT)");
        int[][] signs = {{0, 1, 1}, {1, 96, 96}, {48, 96, 96}, {49, 1, 1}, {95, 1, 1}};
        for (int[] s : signs) {
            LightPlate x = of(2);
            x.set(0, 0, s[0]);
            x.take();
            x.split();
            due("sign of lane 0 by " + s[0], x.step(0, 2), s[1]);
            due("sign of lane 1 by " + s[0], x.step(1, 2), s[2]);
        }
        LightPlate y = of(2);
        y.entry(0, 0, 5);
        y.entry(1, 1, 0);
        y.split();
        due("not right: 5", y.step(0, 2), 5);
        due("not right: 0", y.step(1, 2), 0);
    }

    private static void stepRefusals() {
        Checks.sentence(12, "NONE");
        for (int i : new int[] {-1, 0, 1, 14}) {
            for (int what = -1; what <= 3; what++) due("no split yet", of(6).step(i, what), -1);
        }
        int[] steps = {1, 3, 6, 10, 15};
        for (int n = 2; n <= 6; n++) {
            LightPlate x = diagonal(n);
            x.split();
            int last = steps[n - 2] - 1;
            due("the last step, its lane", x.step(last, 0), n - 2);
            due("the last step, its turn", x.step(last, 1), 0);
            due("the last sign", x.step(n - 1, 2), 1);
            for (int i : new int[] {-1, last + 1, MIN, MAX}) {
                due("lane of step " + i, x.step(i, 0), -1);
                due("turn of step " + i, x.step(i, 1), -1);
            }
            for (int i : new int[] {-1, n, MIN, MAX}) due("sign of lane " + i, x.step(i, 2), -1);
            for (int what : new int[] {-1, 3, MIN, MAX}) due("what " + what, x.step(0, what), -1);
        }
        Whole.refused("step 3", Scenes.busy(3), x -> x.step(3, 0), -1);
        Whole.refused("sign of lane 3", Scenes.busy(3), x -> x.step(3, 2), -1);
        Whole.refused("what 3", Scenes.busy(3), x -> x.step(0, 3), -1);
    }

    private static void latestSplit() {
        Checks.sentence(12, "of the latest split()");
        LightPlate x = of(3);
        x.set(0, 0, 90);
        x.take();
        x.split();
        due("turn", x.step(1, 1), 6);
        x.entry(0, 0, 0);
        x.take();
        x.entry(2, 2, 9);
        due("told since", x.step(1, 1), 6);
        due("sign, told since", x.step(2, 2), 1);
        x.entry(1, 0, 22);
        x.entry(2, 0, 1);
        due("a split that lacks", x.split(), -10);
        due("nothing of the one ahead", x.step(1, 1), -1);
        due("no sign of the one ahead", x.step(2, 2), -1);
    }

    private static void undoStates() {
        Checks.sentence(13, "STATE: there was none, or a STEP lacked");
        Supplier<LightPlate> none = () -> {
            LightPlate x = diagonal(3);
            Checks.program(x, "t 1 5");
            return x;
        };
        Whole.refused("no split", none, x -> x.undo(), -3);
        Whole.refused("nothing at all", Scenes.fresh(2), x -> x.undo(), -3);
        Supplier<LightPlate> lacked = () -> {
            LightPlate x = none.get();
            x.split();
            x.entry(1, 0, 22);
            x.entry(2, 0, 1);
            x.split();
            return x;
        };
        Whole.refused("a step lacked", lacked, x -> x.undo(), -3);
    }

    /**
     * A told table of six LANES whose STEPS are by k where there is a 1 in the text, else by 0. In each column those
     * by 0 must come first, as what is not there yet can't be turned.
     */
    private static LightPlate told(String steps, int k) {
        int[][] t = new int[6][6];
        for (int i = 0; i < 6; i++) t[i][i] = 1;
        int step = 15;
        for (int c = 4; c >= 0; c--) {
            for (int r = c + 1; r <= 5; r++) {
                step--;
                if (steps.charAt(step) == '1') turnRows(t, r - 1, 96 - k);
            }
        }
        LightPlate x = of(6);
        Checks.program(x, "t 1 5");
        for (int r = 0; r < 6; r++) {
            for (int c = 0; c < 6; c++) x.entry(r, c, t[r][c]);
        }
        due("steps", x.split(), 15);
        for (int i = 0; i < 15; i++) due("turn of step " + i, x.step(i, 1), steps.charAt(i) == '1' ? k : 0);
        return x;
    }

    private static void turnRows(int[][] t, int i, int k) {
        LightPlate turns = of(2);
        int c = turns.turn(k, 0);
        int s = turns.turn(k, 1);
        for (int column = 0; column < 6; column++) {
            int upper = t[i][column];
            int lower = t[i + 1][column];
            t[i][column] = Math.floorMod(c * upper - s * lower, 97);
            t[i + 1][column] = (s * upper + c * lower) % 97;
        }
    }

    private static void undoTen() {
        Checks.sentence(13, "FULL: more than 10 (WORKS stay)");
        for (int turn : new int[] {1, 7, 47}) {
            int k = turn;
            due("ten", told("111110111001001", k).undo(), 10);
            due("ten of others", told("000001111111111", k).undo(), 10);
            for (String steps : new String[] {"111111111001001", "000011111111111", "111111111111111"}) {
                Whole.refused("undo of " + steps, () -> told(steps, k), x -> x.undo(), -4);
            }
        }
    }

    private static void undoLeavesZeros() {
        Checks.sentence(13, "STEPS back, the last one first, those by 0 left out");
        LightPlate first = told("000010000000000", 7);
        due("one of the first column alone", first.undo(), 1);
        Checks.same("its work", Checks.works(first), "0:89");
        LightPlate last = told("000000000000001", 1);
        due("the last step alone", last.undo(), 1);
        Checks.same("its work", Checks.works(last), "4:95");
        LightPlate none = told("000000000000000", 7);
        due("none", none.undo(), 0);
        Checks.same("no works", Checks.works(none), "");
        LightPlate ends = told("000110000000001", 47);
        due("three", ends.undo(), 3);
        Checks.same("the last one first", Checks.works(ends), "4:49 0:49 1:49");
    }

    private static void workRefusals() {
        Checks.sentence(14, "NONE");
        for (int what = -1; what <= 2; what++) due("no works", of(3).work(0, what), -1);
        LightPlate x = of(6);
        Checks.program(x, "9(t 4 95);t 0 0");
        due("work 9", x.work(9, 0) * 100 + x.work(9, 1), 0);
        due("work 8", x.work(8, 0) * 100 + x.work(8, 1), 495);
        for (int i : new int[] {-1, 10, 11, MIN, MAX}) {
            for (int what = 0; what < 2; what++) due("work " + i, x.work(i, what), -1);
        }
        for (int what : new int[] {-1, 2, MIN, MAX}) due("what " + what, x.work(0, what), -1);
        Checks.program(x, "s 1");
        due("one of fewer", x.work(0, 1), 24);
        due("nothing is left of the ten", x.work(1, 1), -1);
        Whole.refused("work 3", Scenes.busy(3), y -> y.work(3, 0), -1);
        Whole.refused("work 10", Scenes.full(3), y -> y.work(10, 1), -1);
        Whole.refused("what 2", Scenes.full(3), y -> y.work(9, 2), -1);
    }
}
