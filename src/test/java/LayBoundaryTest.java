import java.util.function.Supplier;

/** Boundary cases of promise 15 (WORKS that are LAID), sentence by sentence. */
public final class LayBoundaryTest {
    private LayBoundaryTest() {
    }

    public static void main(String[] args) {
        noWorks();
        allLayers();
        tenWorks();
        order();
        laidAgain();
        deadJustItsTurn();
        deadAtZero();
        deadMustDoOne();
        deadBehind();
        greatestSets();
        settingsOrZero();
        cantBe();
        Checks.end();
    }

    private static LightPlate of(int n, String program) {
        return LayTest.lanes(n, program);
    }

    private static void laid(String what, LightPlate x, int fewest, String settings) {
        LayTest.laid(what, x, fewest, settings);
    }

    private static void noWorks() {
        Checks.sentence(15, "FEWEST: the least number of LAYERS in which all are done: of no WORKS 0");
        for (int n = 2; n <= 6; n++) {
            LightPlate x = new LightPlate(n - 2);
            for (int layer = 0; layer < 12; layer++) x.set(layer, layer % 2, 5);
            laid("none ever", x, 0, "");
        }
        laid("a program of none", of(3, "0(s 0)"), 0, "");
    }

    private static void allLayers() {
        Checks.sentence(15, "the least number of LAYERS: 12 at most");
        laid("one layer", of(2, "t 0 1"), 1, "0,0=1");
        laid("layer 1 is the second", of(3, "t 1 1"), 2, "1,1=1");
        laid("eleven layers of two lanes", of(2, "6(t 0 1)"), 11, "0,0=1 2,0=1 4,0=1 6,0=1 8,0=1 10,0=1");
        laid("one more of two lanes", of(2, "7(t 0 1)"), -5, "");
        laid("twelve layers", of(3, "6(t 1 3)"), 12, "1,1=3 3,1=3 5,1=3 7,1=3 9,1=3 11,1=3");
        laid("one more", of(3, "7(t 1 3)"), -5, "");
        laid("twelve layers by both", of(3, "4(t 1 3);2(t 0 1;t 1 3)"), 12,
                "1,1=3 3,1=3 5,1=3 7,1=3 8,0=1 9,1=3 10,0=1 11,1=3");
        laid("one more by both", of(3, "4(t 1 3);2(t 0 1;t 1 3);t 0 1"), -5, "");
    }

    private static void tenWorks() {
        Checks.sentence(15, "10 at most are kept: all ten are done");
        laid("ten in six lanes", of(6, "2(t 0 1;t 2 2;t 4 3;t 1 4;t 3 5)"), 4,
                "0,0=1 0,2=2 0,4=3 1,1=4 1,3=5 2,0=1 2,2=2 2,4=3 3,1=4 3,3=5");
        laid("ten in three lanes", of(3, "5(t 0 1;t 1 2)"), 10,
                "0,0=1 1,1=2 2,0=1 3,1=2 4,0=1 5,1=2 6,0=1 7,1=2 8,0=1 9,1=2");
    }

    private static void order() {
        Checks.sentence(15, "WORKS that have a LANE in common stay in their order (an earlier one in an earlier "
                + "LAYER)");
        laid("the same lanes", of(4, "t 0 1;t 0 2"), 3, "0,0=1 2,0=2");
        laid("the lower lane in common", of(4, "t 0 1;t 1 2"), 2, "0,0=1 1,1=2");
        laid("the upper lane in common", of(4, "t 1 1;t 0 2"), 3, "1,1=1 2,0=2");
        laid("no lane in common, one beside the other", of(4, "t 2 1;t 0 2"), 1, "0,0=2 0,2=1");
        laid("no lane in common, other layers", of(5, "t 3 1;t 0 2"), 2, "0,0=2 1,3=1");
        for (int first = 0; first < 5; first++) {
            for (int second = 0; second < 5; second++) twoWorks(first, second);
        }
        laid("a later one first, as it may", of(6, "t 3 1;t 3 2;t 0 2"), 4, "0,0=2 1,3=1 3,3=2");
    }

    private static void twoWorks(int first, int second) {
        int at = first % 2;
        int then = second % 2;
        if (first == second) then = at + 2;
        else if (Math.abs(first - second) == 1) then = at + 1;
        LightPlate x = of(6, "t " + first + " 1;t " + second + " 2");
        Checks.due("lanes " + first + " and " + second, x.lay(), Math.max(at, then) + 1);
        Checks.due("the first one", x.cell(at, first, 0), 1);
        Checks.due("the second one", x.cell(then, second, 0), 2);
    }

    private static void laidAgain() {
        Checks.sentence(15, "WORKS are LAID: those of now alone");
        LightPlate x = of(4, "t 0 1;t 0 2;t 1 3");
        laid("the first time", x, 4, "0,0=1 2,0=2 3,1=3");
        Checks.program(x, "t 0 1;t 2 2");
        laid("others, in any order", x, 1, "0,0=1 0,2=2");
        Checks.program(x, "0(s 0)");
        laid("none", x, 0, "");
        x.dies(0, 0, 1);
        Checks.due("stuck, and none", x.lay(), -5);
        Checks.program(x, "t 0 1");
        laid("one for it", x, 1, "");
    }

    private static void deadJustItsTurn() {
        Checks.sentence(15, "a DEAD CELL does one that is just its TURN");
        for (int k : new int[] {1, 50, 95}) {
            LightPlate x = of(2, "t 0 " + k);
            x.dies(0, 0, k);
            laid("just its turn", x, 1, "");
            for (int off : new int[] {k - 1, k + 1}) {
                if (off < 1 || off > 95) continue;
                LightPlate y = of(2, "t 0 " + k);
                y.dies(0, 0, off);
                Checks.due("stuck at " + off + " for " + k, y.lay(), -5);
            }
        }
        LightPlate last = of(3, "t 1 9");
        last.dies(11, 1, 9);
        laid("in the last layer", last, 12, "");
    }

    private static void deadAtZero() {
        Checks.sentence(15, "or (stuck at 0) none");
        LightPlate x = of(2, "t 0 4");
        for (int layer = 0; layer < 10; layer += 2) x.dies(layer, 0, 0);
        laid("the last cell is left", x, 11, "10,0=4");
        x.dies(10, 0, 0);
        Checks.due("no cell is left", x.lay(), -5);
        LightPlate y = of(2, "6(t 0 0)");
        for (int layer = 0; layer < 12; layer += 2) y.dies(layer, 0, 0);
        laid("works by 0 are done by those stuck at 0", y, 11, "");
        LightPlate z = of(2, "t 0 0;t 0 0;t 0 5");
        z.dies(0, 0, 0);
        z.dies(4, 0, 0);
        laid("by one of them, and by one that is not dead", z, 7, "6,0=5");
    }

    private static void deadMustDoOne() {
        Checks.sentence(15, "one that is stuck at another TURN must do one");
        LightPlate x = of(2, "t 0 1;t 0 2;t 0 3");
        x.dies(4, 0, 2);
        laid("so the first waits not, the last does", x, 7, "0,0=1 6,0=3");
        LightPlate y = of(2, "t 0 1;t 0 2;t 0 3");
        y.dies(0, 0, 2);
        Checks.due("nothing can come ahead of it", y.lay(), -5);
        LightPlate z = of(2, "t 0 1");
        z.dies(0, 0, 1);
        z.dies(2, 0, 1);
        Checks.due("two stuck ones, one work", z.lay(), -5);
        Checks.program(z, "2(t 0 1)");
        laid("two stuck ones, two works", z, 3, "");
    }

    private static void deadBehind() {
        Checks.sentence(15, "those behind must not have DEAD CELLS stuck at a TURN above 0");
        LightPlate x = of(3, "t 0 5");
        x.dies(1, 1, 0);
        x.dies(11, 1, 0);
        laid("stuck at 0 behind", x, 1, "0,0=5");
        for (int layer = 1; layer < 12; layer += 2) {
            LightPlate y = of(3, "t 0 5");
            y.dies(layer, 1, 1);
            Checks.due("stuck at 1 in layer " + layer, y.lay(), -5);
            LightPlate z = of(3, "t 0 5;t 1 1");
            z.dies(layer, 1, 1);
            laid("a work for it in layer " + layer, z, layer + 1, "0,0=5");
        }
        for (int layer = 0; layer < 12; layer++) {
            for (int i = layer % 2; i < 5; i += 2) {
                LightPlate none = new LightPlate(4);
                none.dies(layer, i, layer == 10 ? 95 : 1);
                Checks.due("stuck at " + layer + "," + i + ", and no works", none.lay(), -5);
                none.dies(layer, i, 0);
                Checks.due("stuck at 0, and no works", none.lay(), 0);
            }
        }
    }

    private static void greatestSets() {
        Checks.sentence(15, "LAYER by LAYER, the greatest set of WORKS as bits (WORK 0 the least bit)");
        LightPlate x = of(6, "t 0 1;t 2 2;t 4 3;t 0 4;t 0 5");
        laid("all that can be, in the first layer", x, 5, "0,0=1 0,2=2 0,4=3 2,0=4 4,0=5");
        LightPlate y = of(6, "t 0 1;t 2 2;t 2 9;t 2 9");
        y.dies(4, 0, 1);
        laid("bits that may not be early", y, 5, "0,2=2 2,2=9 4,2=9");
        LightPlate z = of(4, "t 0 6;t 2 8;t 0 6");
        z.dies(2, 0, 6);
        laid("work 0 and 1 first", z, 3, "0,0=6 0,2=8");
        LightPlate w = of(4, "t 2 0;t 0 6");
        w.dies(0, 2, 0);
        laid("a work by 0 is a bit too", w, 1, "0,0=6");
    }

    private static void settingsOrZero() {
        Checks.sentence(15, "The SETTING of each CELL that is not DEAD becomes its WORK's TURN, or 0");
        LightPlate x = of(3, "t 0 5;t 1 0");
        for (int layer = 0; layer < 12; layer++) x.set(layer, layer % 2, 90);
        x.dies(3, 1, 0);
        x.dies(8, 0, 0);
        laid("those of dead ones stay", x, 2, "0,0=5 3,1=90 8,0=90");
        Checks.due("no entry more", x.count(4), 12);
        LightPlate full = Scenes.full(3).get();
        Checks.program(full, "");
        Checks.program(full, "t 0 1");
        laid("if the log is full", full, 1, "0,0=1");
    }

    private static void cantBe() {
        Checks.sentence(15, "-5: they can't be (all stays)");
        Supplier<LightPlate> tooMany = () -> {
            LightPlate x = of(2, "7(t 0 1)");
            x.set(0, 0, 9);
            x.set(10, 0, 95);
            return x;
        };
        Whole.refused("seven in six", tooMany, x -> x.lay(), -5);
        Supplier<LightPlate> stuck = () -> {
            LightPlate x = Scenes.busy(6).get();
            x.dies(11, 3, 1);
            return x;
        };
        Whole.refused("stuck behind", stuck, x -> x.lay(), -5);
        LightPlate x = stuck.get();
        x.lay();
        x.mend(11, 3);
        x.mend(4, 0);
        Checks.due("when it is mended", x.lay(), 5);
    }
}
