import java.util.function.Supplier;

/** Boundary cases of the promises 25 to 28 (THE PROBING), sentence by sentence. */
public final class ProbeBoundaryTest {
    private static final int MIN = Integer.MIN_VALUE;
    private static final int MAX = Integer.MAX_VALUE;

    private ProbeBoundaryTest() {
    }

    public static void main(String[] args) {
        numbersOfHypotheses();
        deadOnesAreLeftOut();
        offsetsOfHypotheses();
        probeRefusals();
        intoOneLaneAlone();
        probeFull();
        begunAnew();
        heldBounds();
        noneHeld();
        nextRefusals();
        nextOfOne();
        nextOfSeveral();
        nextBehindTheFirstLane();
        nextBegunAnewWithFewer();
        Checks.end();
    }

    private static void due(String what, long got, long want) {
        Checks.due(what, got, want);
    }

    private static LightPlate of(int n) {
        return new LightPlate(n - 2);
    }

    private static Supplier<LightPlate> begun(int n) {
        return () -> {
            LightPlate x = of(n);
            x.probing();
            return x;
        };
    }

    private static void numbersOfHypotheses() {
        Checks.sentence(25, "0 none; then CELLS by LAYERS, by i, each with -2, -1, 1, 2: how many there are");
        for (int n = 2; n <= 6; n++) {
            LightPlate x = of(n);
            int all = 1 + 24 * (n - 1);
            due(n + " lanes", x.probing(), all);
            due("all are held", x.held(-1), all);
            due("0 is the first", x.held(0), 0);
            due("the last", x.held(all - 1), all - 1);
        }
    }

    private static void deadOnesAreLeftOut() {
        Checks.sentence(25, "CELLS (that are not DEAD as THE PROBING begins)");
        for (int n = 2; n <= 6; n++) {
            LightPlate x = of(n);
            int cells = 6 * (n - 1);
            for (int layer = 0; layer < 12; layer++) {
                for (int i = layer % 2; i <= n - 2; i += 2) {
                    x.dies(layer, i, 0);
                    cells--;
                    due("living: " + cells, x.probing(), 1 + 4 * cells);
                }
            }
            due("all dead: none is off", x.held(0), 0);
            due("one held", x.held(-1), 1);
        }
        LightPlate y = of(2);
        y.dies(0, 0, 5);
        due("one dead", y.probing(), 21);
        y.mend(0, 0);
        y.dies(2, 0, 0);
        due("as it began", y.held(-1), 21);
        LightPlate fewer = of(2);
        fewer.probing();
        fewer.dies(10, 0, 0);
        due("begun anew with fewer", fewer.probing(), 21);
        due("the last", fewer.held(20), 20);
        due("none of those ahead", fewer.held(21), -1);
        fewer.probe(0, 1);
        due("none is off", fewer.held(-1), 1);
    }

    /** Of two LANES only the first CELL lives, so HYPOTHESES are 0 and -2, -1, 1, 2 of it. */
    private static LightPlate oneCell(int offset) {
        return oneCell(10, offset);
    }

    private static LightPlate oneCell(int setting, int offset) {
        LightPlate x = of(2);
        for (int layer = 2; layer < 12; layer += 2) x.dies(layer, 0, 0);
        x.set(0, 0, setting);
        x.offset(0, 0, offset);
        due("hypotheses", x.probing(), 5);
        x.probe(0, 1);
        return x;
    }

    private static void offsetsOfHypotheses() {
        Checks.sentence(27, "an OFFSET of -2, -1, 1, 2 more than what is known of it, or none has");
        int[][] held = {{-2, 1}, {-1, 2}, {0, 0}, {1, 3}, {2, 4}};
        for (int[] pair : held) {
            LightPlate x = oneCell(pair[0]);
            due("by " + pair[0] + ", how many", x.held(-1), 1);
            due("by " + pair[0], x.held(0), pair[1]);
        }
        due("by -3", oneCell(-3).held(-1), 0);
        due("by 3", oneCell(3).held(-1), 0);
        Checks.sentence(27, "TRUE TURNS with OFFSETS as they are known now, and that, modulo 96");
        int[][] wraps = {{0, -1, 2}, {0, -2, 1}, {1, -2, 1}, {95, 1, 3}, {95, 2, 4}, {94, 2, 4}};
        for (int[] w : wraps) {
            LightPlate x = of(2);
            for (int layer = 2; layer < 12; layer += 2) x.dies(layer, 0, 0);
            x.set(0, 0, w[0]);
            x.offset(0, 0, w[1]);
            x.probing();
            x.probe(0, 0);
            x.probe(0, 1);
            due(w[0] + " by " + w[1], x.held(0), w[2]);
            due("alone", x.held(-1), 1);
        }
        LightPlate y = of(2);
        for (int layer = 2; layer < 12; layer += 2) y.dies(layer, 0, 0);
        y.offset(0, 0, 8);
        y.found(0, 0, 7, 0);
        y.probing();
        y.probe(0, 1);
        due("8 is 1 more than 7", y.held(0), 3);
        y.found(0, 0, 8, 0);
        y.probing();
        y.probe(0, 1);
        due("8 is known", y.held(0), 0);
    }

    private static void probeRefusals() {
        Checks.sentence(26, "NONE");
        for (int n = 2; n <= 6; n++) {
            due(n + " lanes, the last ones", begun(n).get().probe(n - 1, n - 1), 1);
            for (int lane : new int[] {-1, n, MIN, MAX}) {
                due(n + " lanes, into " + lane, begun(n).get().probe(lane, 0), -1);
                due(n + " lanes, out of " + lane, begun(n).get().probe(0, lane), -1);
            }
        }
        Whole.refused("into lane 3", Scenes.busy(3), x -> x.probe(3, 0), -1);
        Whole.refused("out of lane 3", Scenes.busy(3), x -> x.probe(0, 3), -1);
        Whole.refused("into lane -1", Scenes.busy(3), x -> x.probe(-1, 0), -1);
        Whole.refused("out of lane -1", Scenes.busy(3), x -> x.probe(0, -1), -1);
        Checks.sentence(26, "STATE: THE PROBING did not begin");
        Whole.refused("not begun", Scenes.fresh(3), x -> x.probe(0, 0), -3);
        Checks.sentence(26, "NONE, ahead of STATE");
        Whole.refused("not begun, no lane", Scenes.fresh(3), x -> x.probe(0, 3), -1);
    }

    private static void intoOneLaneAlone() {
        Checks.sentence(26, "1 goes into LANE j alone, what comes out of LANE m is looked at");
        for (int n = 2; n <= 6; n++) {
            LightPlate x = begun(n).get();
            int done = 0;
            for (int j = 0; j < n; j++) {
                for (int m = 0; m < n && done < 20; m++) {
                    due(n + " lanes, " + j + " to " + m, x.probe(j, m), j == m ? 1 : 0);
                    done++;
                }
            }
            due("none is off", x.held(0), 0);
        }
        LightPlate y = of(2);
        y.set(0, 0, 24);
        y.probing();
        due("S", y.probe(0, 1), 1);
        due("less S", y.probe(1, 0), 96);
    }

    private static void probeFull() {
        Checks.sentence(26, "FULL: 20 were done in it");
        LightPlate x = begun(3).get();
        for (int p = 1; p <= 20; p++) due("probe " + p, x.probe(0, 0), 1);
        due("the 21st", x.probe(0, 0), -4);
        Whole.refused("the 21st", Scenes.full(3), y -> y.probe(0, 0), -4);
        Whole.refused("the 21st, another one", Scenes.full(3), y -> y.probe(2, 1), -4);
        Checks.sentence(26, "NONE, ahead of FULL");
        Whole.refused("the 21st, no lane", Scenes.full(3), y -> y.probe(3, 0), -1);
        Checks.sentence(26, "20 were done in it: refused ones are none of them");
        LightPlate y = begun(3).get();
        for (int p = 1; p <= 30; p++) y.probe(0, 3);
        for (int p = 1; p <= 20; p++) due("probe " + p, y.probe(1, 1), 1);
        due("the 21st", y.probe(1, 1), -4);
    }

    private static void begunAnew() {
        Checks.sentence(25, "THE PROBING begins: PROBES done since");
        LightPlate x = Scenes.full(3).get();
        due("hypotheses", x.probing(), 49);
        due("all are held again", x.held(-1), 49);
        for (int p = 1; p <= 20; p++) Checks.holds("probe " + p, x.probe(1, 0) >= 0);
        due("the 21st", x.probe(1, 0), -4);
    }

    private static void heldBounds() {
        Checks.sentence(27, "How many are HELD (i -1), the i-th. NONE: none such");
        LightPlate x = begun(2).get();
        due("the last", x.held(24), 24);
        for (int i : new int[] {25, 26, -2, -3, MIN, MAX}) {
            due("the " + i + "-th", x.held(i), -1);
            Whole.refused("the " + i + "-th", begun(2), y -> y.held(i), -1);
        }
        Whole.refused("the greatest", Scenes.busy(3), y -> y.held(MAX), -1);
        Checks.sentence(27, "STATE likewise");
        for (int i : new int[] {-1, 0, 1, -2, MIN, MAX}) {
            Whole.refused("not begun, " + i, Scenes.fresh(3), y -> y.held(i), -3);
        }
    }

    private static void noneHeld() {
        Checks.sentence(27, "none such, as none is HELD");
        LightPlate x = oneCell(8);
        due("how many", x.held(-1), 0);
        due("the first", x.held(0), -1);
        due("a probe still can be done", x.probe(0, 0), x.turn(18, 0));
        due("how many then", x.held(-1), 0);
    }

    private static void nextRefusals() {
        Checks.sentence(28, "STATE likewise, or none is HELD");
        Whole.refused("not begun", Scenes.fresh(3), x -> x.next(), -3);
        Whole.refused("none held", () -> oneCell(8), x -> x.next(), -3);
        LightPlate x = oneCell(8);
        x.probing();
        Checks.holds("begun anew", x.next() >= 0);
        Checks.holds("20 were done", Scenes.full(3).get().next() >= 0);
    }

    private static void nextOfOne() {
        Checks.sentence(28, "of several the least j, then m");
        due("one is held: nothing to part", oneCell(1).next(), 0);
        due("one is held, those that are not don't count", oneCell(0, 1).next(), 0);
        for (int n = 2; n <= 6; n++) {
            LightPlate x = of(n);
            for (int layer = 0; layer < 12; layer++) {
                for (int i = layer % 2; i <= n - 2; i += 2) x.dies(layer, i, 7);
            }
            x.probing();
            due("all dead", x.next(), 0);
        }
    }

    /** Only the CELL at LANES i, i + 1 of its LAYER lives: only PROBES into and out of these LANES part. */
    private static int nextFor(int n, int layer, int i, int setting) {
        LightPlate x = of(n);
        for (int l = 0; l < 12; l++) {
            for (int lane = l % 2; lane <= n - 2; lane += 2) {
                if (l != layer || lane != i) x.dies(l, lane, 0);
            }
        }
        x.set(layer, i, setting);
        due("hypotheses", x.probing(), 5);
        return x.next();
    }

    /** LANE 0's light is led past the one CELL that lives, to LANE 2; LANE 1's comes to it as its upper one. */
    private static void nextBehindTheFirstLane() {
        Checks.sentence(28, "of several the least j: a later one if the first parts nothing");
        LightPlate x = of(3);
        for (int layer = 0; layer < 12; layer++) {
            if (layer != 2) x.dies(layer, layer % 2, layer < 2 ? 24 : 0);
        }
        x.set(2, 0, 24);
        due("hypotheses", x.probing(), 5);
        due("by C", x.next(), 10);
        x.set(2, 0, 0);
        due("by S", x.next(), 11);
    }

    /** What was HELD in a PROBING with more HYPOTHESES must not be counted in one with fewer. */
    private static void nextBegunAnewWithFewer() {
        Checks.sentence(28, "parts those that are HELD: since THE PROBING began");
        LightPlate x = of(2);
        due("hypotheses", x.probing(), 25);
        for (int layer = 2; layer < 12; layer += 2) x.dies(layer, 0, 0);
        due("hypotheses then", x.probing(), 5);
        due("C of -2 and 2 is one: by S", x.next(), 1);
    }

    private static void nextOfSeveral() {
        Checks.sentence(28, "10 j and m: groups of one outcome, the greatest of which is the least");
        due("all five parted by C and by S: the first", nextFor(2, 0, 0, 10), 0);
        due("C of -2 and 2 is one: by S", nextFor(2, 0, 0, 0), 1);
        due("C of 46 and 50 is one: by S", nextFor(2, 0, 0, 48), 1);
        due("S of 22 and 26 is one: by C", nextFor(2, 0, 0, 24), 0);
        due("C of 47 and 49 is one, none off among them: by S", nextFor(2, 0, 0, 47), 1);
        due("C of 95 and 1 is one, none off among them: by S", nextFor(2, 0, 0, 95), 1);
        for (int n = 3; n <= 6; n++) {
            due(n + " lanes, the last ones, by C", nextFor(n, n % 2, n - 2, 24), 11 * (n - 2));
            due(n + " lanes, the last ones, by S", nextFor(n, n % 2, n - 2, 0), 11 * (n - 2) + 1);
        }
    }
}
