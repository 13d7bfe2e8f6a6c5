import java.util.function.Supplier;

/** Boundary cases of the promises 18 to 24 (runs, and what is known of offsets), sentence by sentence. */
public final class RunBoundaryTest {
    private static final int MIN = Integer.MIN_VALUE;
    private static final int MAX = Integer.MAX_VALUE;

    private RunBoundaryTest() {
    }

    public static void main(String[] args) {
        creepBounds();
        offsetBounds();
        lightBounds();
        digitsOfLight();
        runsFull();
        outRefusals();
        reworkedRefusals();
        reworkedWraps();
        sinceFirstAndLast();
        sinceByEachLane();
        foundBounds();
        foundTicks();
        foundFull();
        fromATickOn();
        ofOneTick();
        Checks.end();
    }

    private static void due(String what, long got, long want) {
        Checks.due(what, got, want);
    }

    private static LightPlate of(int n) {
        return new LightPlate(n - 2);
    }

    private static long power(int n) {
        long all = 1;
        for (int lane = 0; lane < n; lane++) all *= 97;
        return all;
    }

    private static void creepBounds() {
        Checks.sentence(18, "CREEP (1 .. 99; 99 at first): what it was. BAD");
        LightPlate x = of(2);
        due("1", x.creep(1), 99);
        due("1 again", x.creep(1), 1);
        due("99", x.creep(99), 1);
        due("2", x.creep(2), 99);
        due("what it is", x.count(7), 2);
        for (int n : new int[] {0, 100, -1, 101, MIN, MAX}) {
            Whole.refused("creep " + n, Scenes.busy(6), y -> y.creep(n), -2);
        }
    }

    private static void offsetBounds() {
        Checks.sentence(19, "OFFSET (0 at first; -8 .. 8): what it was. BAD");
        LightPlate x = of(3);
        due("-8", x.offset(11, 1, -8), 0);
        due("8", x.offset(11, 1, 8), -8);
        due("0", x.offset(11, 1, 0), 8);
        due("another one", x.offset(0, 0, 1), 0);
        for (int n : new int[] {-9, 9, 10, -10, MIN, MAX}) {
            Whole.refused("offset " + n, Scenes.busy(3), y -> y.offset(0, 0, n), -2);
        }
        Checks.sentence(19, "NONE, ahead of BAD");
        for (int[] at : Scenes.noCells()) {
            Whole.refused("offset at " + at[0] + "," + at[1], Scenes.busy(6), y -> y.offset(at[0], at[1], 1), -1);
            due("offset BAD at " + at[0] + "," + at[1], of(6).offset(at[0], at[1], 9), -1);
        }
        Checks.sentence(19, "what is true, known or not: no ENTRY, and none of an ENTRY");
        LightPlate full = Scenes.full(3).get();
        due("if the log is full", full.offset(0, 0, 8), 0);
        due("entries", full.count(4), 60);
        LightPlate y = of(3);
        y.found(0, 0, 8, 0);
        due("what is found is not what is true", y.offset(0, 0, 1), 0);
    }

    private static void lightBounds() {
        Checks.sentence(20, "BAD: light below 0, a digit more than LANES");
        for (int n = 2; n <= 6; n++) {
            int lanes = n;
            LightPlate x = of(n);
            due("0", x.run(0), 0);
            due("all 96", x.run(power(n) - 1), 1);
            for (int lane = 0; lane < n; lane++) {
                due("out of 0", x.out(0, lane), 0);
                due("out of all 96", x.out(1, lane), 96);
            }
            for (long light : new long[] {-1, power(n), power(n) + 1, Long.MIN_VALUE, Long.MAX_VALUE, -power(n)}) {
                Whole.refused(n + " lanes, light " + light, Scenes.busy(lanes), y -> y.run(light), -2);
            }
        }
        due("more than an int holds", of(6).run(power(6) - 2), 0);
        due("an int below 0 in it", of(2).run(0x1_0000_0000L), -2);
        due("nothing in its lowest int", of(5).run(0x1_0000_0000L), 0);
    }

    private static void digitsOfLight() {
        Checks.sentence(20, "told for all LANES by digits to the base 97, LANE 0's the lowest");
        for (int n = 2; n <= 6; n++) {
            LightPlate x = of(n);
            for (int lane = 0; lane < n; lane++) {
                int run = x.run(96 * power(lane));
                for (int at = 0; at < n; at++) due("96 into lane " + lane, x.out(run, at), at == lane ? 96 : 0);
            }
            int carry = x.run(97);
            due("97 is a digit higher", x.out(carry, 0) * 100 + x.out(carry, 1), 1);
        }
        LightPlate y = of(2);
        y.set(0, 0, 24);
        y.run(1 + 97);
        due("less 1", y.out(0, 0), 96);
        due("1", y.out(0, 1), 1);
    }

    private static void runsFull() {
        Checks.sentence(20, "RUNS are kept: 40 at most; FULL");
        LightPlate x = of(2);
        for (int r = 0; r < 40; r++) due("run " + r, x.run(r), r);
        due("the 41st", x.run(7), -4);
        due("runs", x.count(3), 40);
        due("the first is kept", x.out(0, 0), 0);
        due("the last is kept", x.out(39, 0), 39);
        for (long light : new long[] {0, 5, 97 * 97 * 97 - 1}) {
            Whole.refused("run if full", Scenes.full(3), y -> y.run(light), -4);
        }
        Checks.sentence(20, "BAD, ahead of FULL");
        Whole.refused("below 0 if full", Scenes.full(3), y -> y.run(-1), -2);
        Whole.refused("a digit more if full", Scenes.full(3), y -> y.run(power(3)), -2);
    }

    private static void outRefusals() {
        Checks.sentence(21, "NONE");
        due("no run yet", of(2).out(0, 0), -1);
        for (int n = 2; n <= 6; n++) {
            LightPlate x = of(n);
            x.run(power(n) - 1);
            due("run 0, the last lane", x.out(0, n - 1), 96);
            for (int lane : new int[] {-1, n, MIN, MAX}) due("lane " + lane, x.out(0, lane), -1);
            for (int run : new int[] {-1, 1, 40, MIN, MAX}) due("run " + run, x.out(run, 0), -1);
        }
        Whole.refused("run 2", Scenes.busy(3), x -> x.out(2, 0), -1);
        Whole.refused("run 40", Scenes.full(3), x -> x.out(40, 0), -1);
        Whole.refused("lane 3", Scenes.full(3), x -> x.out(0, 3), -1);
    }

    private static void reworkedRefusals() {
        Checks.sentence(22, "NONE");
        due("no run yet", of(2).reworked(0, 0), -1);
        for (int n = 2; n <= 6; n++) {
            LightPlate x = of(n);
            x.run(power(n) - 1);
            due("run 0, the last lane", x.reworked(0, n - 1), 96);
            for (int lane : new int[] {-1, n, MIN, MAX}) due("lane " + lane, x.reworked(0, lane), -1);
            for (int run : new int[] {-1, 1, 40, MIN, MAX}) due("run " + run, x.reworked(run, 0), -1);
        }
        LightPlate y = of(2);
        for (int r = 0; r < 40; r++) y.run(r);
        due("run 39", y.reworked(39, 0), 39);
        due("run 40", y.reworked(40, 0), -1);
        Whole.refused("run 2", Scenes.busy(3), x -> x.reworked(2, 0), -1);
        Whole.refused("run 40", Scenes.full(3), x -> x.reworked(40, 0), -1);
        Whole.refused("lane 3", Scenes.full(3), x -> x.reworked(0, 3), -1);
    }

    private static void reworkedWraps() {
        Checks.sentence(22, "by SETTINGS as they were in it .. and OFFSETS that are known now for its TICK, modulo 96");
        int[][] cases = {{95, 1, 0}, {95, 8, 7}, {88, 8, 0}, {0, -8, 88}, {0, -1, 95}, {8, -8, 0}};
        for (int[] c : cases) {
            LightPlate x = of(2);
            x.set(0, 0, c[0]);
            x.run(1);
            x.found(0, 0, c[1], 0);
            due(c[0] + " and " + c[1], x.reworked(0, 1), x.turn(c[2], 1));
            due(c[0] + " and " + c[1] + ", above", x.reworked(0, 0), x.turn(c[2], 0));
        }
        LightPlate y = of(2);
        y.run(1);
        due("nothing told yet, in the first run", y.set(0, 0, 24), 0);
        y.run(1);
        due("run 0 is by 0", y.reworked(0, 0), 1);
        due("run 1 is by 24", y.reworked(1, 1), 1);
    }

    private static void sinceFirstAndLast() {
        Checks.sentence(23, "the first RUN whose light out is not what it comes to REWORKED; -5: none");
        due("no run", of(2).since(), -5);
        for (int off : new int[] {0, 1, 38, 39}) {
            LightPlate x = of(2);
            for (int r = 0; r < 40; r++) {
                x.offset(0, 0, r == off ? 1 : 0);
                x.run(1);
            }
            due("run " + off + " alone is off", x.since(), off);
            x.found(0, 0, 1, off);
            x.found(0, 0, 0, off + 1);
            due("it is known", x.since(), -5);
        }
        LightPlate y = of(2);
        for (int r = 0; r < 40; r++) y.run(1);
        due("forty, none off", y.since(), -5);
    }

    private static void sinceByEachLane() {
        Checks.sentence(23, "whose light out is not what it comes to: in any LANE");
        for (int n = 2; n <= 6; n++) {
            for (int i = 0; i <= n - 2; i++) {
                sinceByOneLane(n, i, 20, i);
                sinceByOneLane(n, i, 92, i + 1);
            }
        }
    }

    /** TURNS 20 and 28 have one S, 92 and 4 one C: by OFFSET 8 the light out is another in one LANE alone. */
    private static void sinceByOneLane(int n, int i, int setting, int off) {
        LightPlate x = of(n);
        x.set(i % 2, i, setting);
        x.offset(i % 2, i, 8);
        x.run(power(i));
        for (int lane = 0; lane < n; lane++) {
            boolean another = x.out(0, lane) != x.reworked(0, lane);
            Checks.holds(n + " lanes, " + off + " is off, lane " + lane, another == (lane == off));
        }
        due(n + " lanes, lane " + off + " alone is off", x.since(), 0);
        x.found(i % 2, i, 8, 0);
        due("it is known", x.since(), -5);
    }

    private static void foundBounds() {
        Checks.sentence(24, "BAD: n (-8 .. 8)");
        LightPlate x = of(3);
        due("-8", x.found(0, 0, -8, 0), 1);
        due("8", x.found(0, 0, 8, 0), 2);
        due("0", x.found(0, 0, 0, 0), 3);
        for (int n : new int[] {-9, 9, MIN, MAX}) {
            Whole.refused("found " + n, Scenes.busy(3), y -> y.found(0, 0, n, 0), -2);
        }
        Checks.sentence(24, "NONE, ahead of BAD");
        for (int[] at : Scenes.noCells()) {
            Whole.refused("found at " + at[0] + "," + at[1], Scenes.busy(6), y -> y.found(at[0], at[1], 1, 0), -1);
            due("found BAD at " + at[0] + "," + at[1], of(6).found(at[0], at[1], 9, 9), -1);
        }
    }

    private static void foundTicks() {
        Checks.sentence(24, "BAD: tick (0 to now; the TICK is how many RUNS were)");
        LightPlate x = of(2);
        due("no run: tick 0", x.found(0, 0, 1, 0), 1);
        due("no run: tick 1", x.found(0, 0, 1, 1), -2);
        for (int r = 1; r <= 40; r++) {
            x.run(1);
            if (r % 8 != 0) continue;
            due("tick " + r, x.found(0, 0, 1, r), x.count(4));
            due("tick " + (r + 1), x.found(0, 0, 1, r + 1), -2);
            due("tick -1", x.found(0, 0, 1, -1), -2);
        }
        for (int tick : new int[] {-1, 3, MIN, MAX}) {
            Whole.refused("tick " + tick, Scenes.busy(3), y -> y.found(0, 0, 1, tick), -2);
        }
        due("the tick of now", Scenes.busy(3).get().found(0, 0, 1, 2), 6);
    }

    private static void foundFull() {
        Checks.sentence(24, "is an ENTRY (60 at most); FULL");
        LightPlate x = of(2);
        for (int e = 1; e <= 60; e++) due("entry " + e, x.found(0, 0, e % 8, 0), e);
        due("the 61st", x.found(0, 0, 8, 0), -4);
        due("a setting as the 61st", x.set(0, 0, 5), -4);
        x.run(1);
        due("the 60th is kept", x.reworked(0, 1), x.turn(4, 1));
        LightPlate mixed = of(2);
        for (int e = 0; e < 59; e++) mixed.set(0, 0, 1);
        due("the 60th", mixed.found(0, 0, 1, 0), 60);
        due("the 61st of both", mixed.found(0, 0, 1, 0), -4);
        Whole.refused("found if full", Scenes.full(3), y -> y.found(0, 0, 1, 0), -4);
        Whole.refused("found if full, of now", Scenes.full(3), y -> y.found(2, 0, -8, 40), -4);
        Checks.sentence(24, "NONE and BAD, ahead of FULL");
        Whole.refused("no cell if full", Scenes.full(3), y -> y.found(0, 1, 1, 0), -1);
        Whole.refused("9 if full", Scenes.full(3), y -> y.found(0, 0, 9, 0), -2);
        Whole.refused("tick 41 if full", Scenes.full(3), y -> y.found(0, 0, 1, 41), -2);
        Whole.refused("tick -1 if full", Scenes.full(3), y -> y.found(0, 0, 1, -1), -2);
    }

    /** By OFFSET k the light 1 comes to S of TURN k in LANE 1. */
    private static void known(String what, LightPlate x, int... offsets) {
        for (int run = 0; run < offsets.length; run++) {
            due(what + ", run " + run, x.reworked(run, 1), x.turn(offsets[run], 1));
        }
    }

    private static LightPlate fiveRuns() {
        LightPlate x = of(2);
        for (int r = 0; r < 5; r++) x.run(1);
        return x;
    }

    private static void fromATickOn() {
        Checks.sentence(24, "FOUND from a TICK on, till one that is FOUND from a later TICK on (of TICKS ahead: 0)");
        LightPlate x = fiveRuns();
        known("nothing found", x, 0, 0, 0, 0, 0);
        x.found(0, 0, 3, 2);
        known("from 2 on", x, 0, 0, 3, 3, 3);
        x.found(0, 0, 5, 4);
        known("till 4", x, 0, 0, 3, 3, 5);
        x.found(0, 0, 7, 0);
        known("from 0 on, till 2", x, 7, 7, 3, 3, 5);
        x.found(0, 0, 1, 3);
        known("3 alone", x, 7, 7, 3, 1, 5);
        x.found(0, 0, -8, 5);
        known("of now", x, 7, 7, 3, 1, 5);
        x.run(1);
        known("the next run", x, 7, 7, 3, 1, 5, 88);
    }

    private static void ofOneTick() {
        Checks.sentence(24, "of one TICK the latest entered");
        LightPlate x = fiveRuns();
        x.found(0, 0, 3, 2);
        x.found(0, 0, 4, 2);
        known("the second", x, 0, 0, 4, 4, 4);
        x.found(0, 0, 6, 4);
        x.found(0, 0, 0, 2);
        known("0 as the latest", x, 0, 0, 0, 0, 6);
        x.found(0, 0, 1, 0);
        x.found(0, 0, 2, 0);
        known("of tick 0", x, 2, 2, 0, 0, 6);
        Supplier<LightPlate> other = () -> {
            LightPlate y = fiveRuns();
            y.found(0, 0, 3, 2);
            y.found(2, 0, 2, 1);
            return y;
        };
        known("each cell by its own", other.get(), 0, 2, 5, 5, 5);
    }
}
