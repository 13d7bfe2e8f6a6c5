import java.util.Random;

/** Promise 15: WORKS LAID round DEAD CELLS in the FEWEST LAYERS. */
public final class LayTest {
    private LayTest() {
    }

    public static void main(String[] args) {
        nothing();
        twoLanes();
        order();
        deadCells();
        stuckAtZero();
        stuckBehind();
        greatestSets();
        cantBe();
        tableOfWorks();
        manyBesideTheModel();
        Checks.end();
    }

    static LightPlate lanes(int n, String program) {
        LightPlate x = new LightPlate(n - 2);
        Checks.program(x, program);
        return x;
    }

    static void laid(String what, LightPlate x, int fewest, String settings) {
        Checks.due(what, x.lay(), fewest);
        Checks.same(what, Checks.settings(x), settings);
    }

    private static void nothing() {
        LightPlate x = new LightPlate(4);
        x.set(0, 0, 5);
        x.set(11, 1, 5);
        laid("no works, told or not", x, 0, "");
        Checks.due("lay() is no entry", x.count(4), 2);
    }

    private static void twoLanes() {
        laid("even layers alone", lanes(2, "t 0 1;t 0 2;t 0 3"), 5, "0,0=1 2,0=2 4,0=3");
        laid("all of them", lanes(2, "6(t 0 1)"), 11, "0,0=1 2,0=1 4,0=1 6,0=1 8,0=1 10,0=1");
        LightPlate x = lanes(2, "7(t 0 1)");
        x.set(0, 0, 9);
        laid("one too many", x, -5, "0,0=9");
    }

    private static void order() {
        laid("an odd lane first", lanes(4, "t 1 5;t 0 6;t 2 7"), 3, "1,1=5 2,0=6 2,2=7");
        laid("works by 0 are done too", lanes(3, "t 1 0;t 0 6;t 1 0"), 4, "2,0=6");
        laid("no lane in common: any order", lanes(6, "t 4 1;t 2 2;t 0 3"), 1, "0,0=3 0,2=2 0,4=1");
        laid("as far as it goes", lanes(3, "5(t 1 2;t 0 1)"), 11,
                "1,1=2 2,0=1 3,1=2 4,0=1 5,1=2 6,0=1 7,1=2 8,0=1 9,1=2 10,0=1");
    }

    private static void deadCells() {
        LightPlate x = lanes(4, "t 0 5;t 2 7");
        x.dies(2, 0, 5);
        laid("a dead one must do its turn, and others not", x, 3, "0,2=7");
        Checks.due("the table of it", x.table(0, 0), x.turn(5, 0));
        LightPlate y = lanes(4, "t 0 5;t 2 7");
        y.set(0, 0, 44);
        y.dies(0, 0, 0);
        laid("stuck at 0: later", y, 3, "0,0=44 0,2=7 2,0=5");
        LightPlate z = lanes(4, "t 0 5;t 2 7");
        z.dies(0, 0, 6);
        Checks.due("stuck at a turn that no work has", z.lay(), -5);
    }

    private static void stuckAtZero() {
        LightPlate x = lanes(2, "t 0 0;t 0 3");
        x.dies(0, 0, 0);
        laid("one by 0 is done by one stuck at 0", x, 3, "2,0=3");
        LightPlate y = lanes(2, "t 0 3;t 0 0");
        y.dies(2, 0, 0);
        laid("and may be left by it", y, 3, "0,0=3");
        LightPlate z = lanes(2, "t 0 3");
        z.dies(10, 0, 0);
        laid("stuck at 0 behind", z, 1, "0,0=3");
    }

    private static void stuckBehind() {
        LightPlate x = lanes(2, "t 0 3;t 0 4");
        x.dies(10, 0, 4);
        laid("the last one is done by the stuck one behind", x, 11, "0,0=3");
        LightPlate y = lanes(2, "t 0 3;t 0 4");
        y.dies(10, 0, 3);
        Checks.due("not the first", y.lay(), -5);
        LightPlate z = new LightPlate(0);
        z.dies(0, 0, 1);
        Checks.due("stuck, and no works", z.lay(), -5);
        z.dies(0, 0, 0);
        Checks.due("stuck at 0, and no works", z.lay(), 0);
    }

    private static void greatestSets() {
        laid("early ones are the greater sets", lanes(4, "t 0 1;t 2 2;t 2 3"), 3, "0,0=1 0,2=2 2,2=3");
        LightPlate x = lanes(6, "t 0 1;t 4 1;t 2 9;t 2 9");
        x.dies(2, 0, 1);
        x.dies(4, 4, 1);
        laid("each dead one has its work", x, 5, "0,2=9 2,2=9");
        LightPlate y = lanes(4, "t 0 5;t 0 5;t 2 8");
        y.dies(4, 0, 5);
        laid("the first one early", y, 5, "0,0=5 0,2=8");
    }

    private static void cantBe() {
        LightPlate x = lanes(3, "t 0 5;t 1 7");
        for (int layer = 0; layer < 12; layer += 2) x.dies(layer, 0, 0);
        x.set(0, 0, 8);
        x.set(1, 1, 9);
        laid("no cell for it", x, -5, "0,0=8 1,1=9");
        Checks.due("works stay", x.count(2), 2);
        x.mend(10, 0);
        laid("the last one for it", x, 12, "0,0=8 10,0=5 11,1=7");
    }

    private static void tableOfWorks() {
        LightPlate x = lanes(5, "t 0 5;s 1;u 2 9;t 3 70;t 1 2;t 0 11");
        Checks.holds("it can be", x.lay() > 0);
        int[] light = {1, 2, 3, 4, 5};
        for (int w = 0; w < x.count(2); w++) {
            int i = x.work(w, 0);
            int c = x.turn(x.work(w, 1), 0);
            int s = x.turn(x.work(w, 1), 1);
            int upper = Math.floorMod(c * light[i] - s * light[i + 1], 97);
            light[i + 1] = (s * light[i] + c * light[i + 1]) % 97;
            light[i] = upper;
        }
        for (int r = 0; r < 5; r++) {
            int sum = 0;
            for (int c = 0; c < 5; c++) sum += x.table(r, c) * (c + 1);
            Checks.due("the table does the works, lane " + r, sum % 97, light[r]);
        }
    }

    private static void manyBesideTheModel() {
        Random dice = new Random(5);
        for (int round = 0; round < 4000; round++) {
            int n = 2 + dice.nextInt(5);
            LightPlate x = new LightPlate(n - 2);
            Model y = new Model(n - 2);
            StringBuilder text = new StringBuilder();
            for (int w = 1 + dice.nextInt(10); w > 0; w--) {
                text.append("t ").append(dice.nextInt(n - 1)).append(' ').append(dice.nextInt(4));
                if (w > 1) text.append(';');
            }
            Checks.program(x, text.toString());
            y.tape = text.toString();
            y.program();
            for (int dead = dice.nextInt(5); dead > 0; dead--) {
                int layer = dice.nextInt(8);
                int k = dice.nextInt(4);
                int i = dice.nextInt(n);
                Checks.due("dies", x.dies(layer, i, k), y.dies(layer, i, k));
            }
            Checks.due("lay() of " + text, x.lay(), y.lay());
            for (int l = 0; l < 12; l++) {
                for (int i = 0; i < n; i++) Checks.due("setting by " + text, x.cell(l, i, 0), y.cell(l, i, 0));
            }
        }
    }
}
