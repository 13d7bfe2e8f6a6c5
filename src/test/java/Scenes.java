import java.util.function.Supplier;

/** Objects to begin with, each made anew by the same calls whenever it is asked for. */
final class Scenes {
    private static final int MIN = Integer.MIN_VALUE;
    private static final int MAX = Integer.MAX_VALUE;

    private Scenes() {
    }

    /** n LANES, 2 to 6: nothing there yet. */
    static Supplier<LightPlate> fresh(int n) {
        return () -> new LightPlate(n - 2);
    }

    /** Some of everything is there, and nothing is full. */
    static Supplier<LightPlate> busy(int n) {
        return () -> makeBusy(n);
    }

    /** All places are taken: 60 ENTRIES, 40 RUNS, 100 bytes, 10 WORKS, 20 PROBES. */
    static Supplier<LightPlate> full(int n) {
        return () -> makeFull(n);
    }

    private static LightPlate makeBusy(int n) {
        LightPlate x = new LightPlate(n - 2);
        x.set(0, 0, 30);
        x.set(2, 0, 20);
        x.set(4, 0, 95);
        x.take();
        x.split();
        x.entry(n - 1, 0, 13);
        Checks.program(x, "t 0 7;s 0;u 0 5");
        x.creep(5);
        x.offset(0, 0, 2);
        x.run(12);
        x.run(95);
        x.found(0, 0, 1, 0);
        x.found(0, 0, 2, 1);
        x.dies(4, 0, 7);
        x.dies(6, 0, 0);
        x.probing();
        x.probe(0, 0);
        x.claim(0, 0, 0);
        x.claim(1, 2, 0);
        Checks.feed(x, "s 0;t 0 9");
        return x;
    }

    private static LightPlate makeFull(int n) {
        LightPlate x = new LightPlate(n - 2);
        for (int e = 0; e < 50; e++) x.set(2 * (e % 6), 0, (e * 7 + 1) % 96);
        x.take();
        x.split();
        Checks.program(x, "5(t 0 11;s 0)");
        x.offset(2, 0, -2);
        for (int r = 0; r < 40; r++) x.run(r * 13);
        for (int e = 0; e < 10; e++) x.found(2 * (e % 6), 0, e % 3 - 1, e * 4);
        x.probing();
        for (int p = 0; p < 20; p++) x.probe(0, 0);
        x.claim(1, 0, 0);
        x.claim(0, 2, 0);
        Checks.feed(x, "s 0;".repeat(24) + "t 0 ");
        return x;
    }

    /** LAYER and LANE where no CELL is, whatever the number of LANES. */
    static int[][] noCells() {
        return new int[][] {{-1, 0}, {-1, 1}, {-2, 0}, {12, 0}, {13, 1}, {0, -1}, {0, -2}, {1, -1},
            {0, 1}, {1, 0}, {10, 1}, {11, 0}, {0, 6}, {1, 5}, {0, 5}, {1, 6}, {MIN, 0}, {MAX, 1}, {0, MIN}, {0, MAX},
            {1, MAX}, {MAX, MAX}, {MIN, MIN}};
    }
}
