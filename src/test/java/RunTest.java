/** Promises 20 to 24: RUNS, what they come to REWORKED, and SINCE. TURN 24 makes x, y to -y, x. */
public final class RunTest {
    private RunTest() {
    }

    public static void main(String[] args) {
        trueTurnsOfARun();
        settingsAsTheyWere();
        stuckTurnsAndCreepAsNow();
        warmthByThese();
        knownByTicks();
        since();
        sinceLooksAtEachLane();
        found();
        Checks.end();
    }

    private static LightPlate lanes(int n) {
        return new LightPlate(n - 2);
    }

    private static void due(String what, long got, long want) {
        Checks.due(what, got, want);
    }

    private static void trueTurnsOfARun() {
        LightPlate x = lanes(6);
        x.creep(1);
        x.set(0, 0, 24);
        x.run(97 * 97);
        due("the neighbour is warmed to 24", x.out(0, 3), 1);
        due("and its upper lane", x.out(0, 2), 0);
        x.dies(0, 2, 0);
        x.run(97 * 97);
        due("a dead one is not", x.out(1, 2), 1);
        due("the table has no warmth", x.table(2, 2), 1);
    }

    private static void settingsAsTheyWere() {
        LightPlate x = lanes(2);
        x.run(1);
        x.set(0, 0, 24);
        x.run(1);
        x.set(0, 0, 48);
        due("run 0", x.reworked(0, 0), 1);
        due("run 1", x.reworked(1, 1), 1);
        Checks.program(x, "t 0 72");
        x.lay();
        x.run(1);
        x.set(0, 0, 0);
        due("laid ones too", x.reworked(2, 1), 96);
        due("since", x.since(), -5);
    }

    private static void stuckTurnsAndCreepAsNow() {
        LightPlate x = lanes(2);
        x.set(0, 0, 24);
        x.run(1);
        x.dies(0, 0, 48);
        due("dead now", x.reworked(0, 0), 96);
        due("out stays", x.out(0, 1), 1);
        due("since", x.since(), 0);
        x.run(1);
        x.mend(0, 0);
        due("mended now", x.reworked(1, 1), 1);
        due("the first one stands again", x.since(), 1);
    }

    private static void warmthByThese() {
        LightPlate x = lanes(4);
        x.set(0, 0, 24);
        x.run(97 * 97);
        due("cold by 99", x.out(0, 2), 1);
        x.creep(1);
        due("warm by 1", x.reworked(0, 3), 1);
        x.set(0, 0, 0);
        due("by the setting of then", x.reworked(0, 3), 1);
        x.dies(0, 0, 48);
        due("by the stuck turn of now", x.reworked(0, 2), 96);
        x.dies(0, 0, 0);
        due("stuck at 0", x.reworked(0, 2), 1);
    }

    private static void knownByTicks() {
        LightPlate x = lanes(2);
        x.set(0, 0, 20);
        for (int r = 0; r < 4; r++) x.run(1);
        x.found(0, 0, 4, 2);
        due("ahead of its tick", x.reworked(1, 1), x.turn(20, 1));
        due("at its tick", x.reworked(2, 1), 1);
        due("behind its tick", x.reworked(3, 1), 1);
        x.found(0, 0, 1, 0);
        due("till a later one", x.reworked(1, 1), x.turn(21, 1));
        due("the later one stays", x.reworked(2, 1), 1);
        x.found(0, 0, 2, 2);
        due("of one tick the latest", x.reworked(2, 1), x.turn(22, 1));
        x.found(0, 0, -3, 3);
        due("a later tick", x.reworked(3, 1), x.turn(17, 1));
        due("not for the tick ahead", x.reworked(2, 1), x.turn(22, 1));
        x.found(0, 0, 8, 4);
        due("the tick of now", x.reworked(3, 1), x.turn(17, 1));
        due("no true turn is changed", x.cell(0, 0, 3), 20);
        due("what is true is not what is found", x.offset(0, 0, 0), 0);
        x.found(2, 0, 4, 0);
        due("another cell", x.reworked(0, 1), x.turn(25, 1));
    }

    private static void since() {
        LightPlate x = lanes(3);
        due("no run", x.since(), -5);
        x.run(0);
        x.offset(0, 0, 1);
        x.run(0);
        due("no light, nothing off", x.since(), -5);
        x.run(97 * 97);
        due("light that does not come there", x.since(), -5);
        x.run(97);
        due("the first that is off", x.since(), 3);
        x.run(1);
        due("the first still", x.since(), 3);
        x.found(0, 0, 1, 3);
        due("known", x.since(), -5);
        x.found(0, 0, 0, 4);
        due("known no more", x.since(), 4);
        x.found(0, 0, 2, 0);
        due("the later ticks are as before", x.since(), 4);
        x.found(0, 0, 0, 3);
        due("the earlier one again", x.since(), 3);
    }

    private static void sinceLooksAtEachLane() {
        for (int n = 2; n <= 6; n++) {
            LightPlate x = lanes(n);
            x.offset(n % 2, n - 2, 8);
            long last = 1;
            for (int lane = 0; lane < n - 1; lane++) last *= 97;
            x.run(last);
            due("the last lanes of " + n, x.since(), 0);
            x.found(n % 2, n - 2, 8, 0);
            due("known, of " + n, x.since(), -5);
        }
    }

    private static void found() {
        LightPlate x = lanes(2);
        due("found", x.found(0, 0, -8, 0), 1);
        due("found again", x.found(0, 0, 8, 0), 2);
        due("a tick to come", x.found(0, 0, 1, 1), -2);
        due("a tick below 0", x.found(0, 0, 1, -1), -2);
        due("9", x.found(0, 0, 9, 0), -2);
        due("-9", x.found(0, 0, -9, 0), -2);
        due("no cell", x.found(1, 1, 9, 9), -1);
        x.run(1);
        due("the tick of now", x.found(0, 0, 1, 1), 3);
        due("a setting is an entry too", x.set(0, 0, 1), 0);
        due("entries", x.found(0, 0, 1, 1), 5);
    }
}
