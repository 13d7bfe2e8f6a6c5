/** Promises 25 to 28: THE PROBING. */
public final class ProbeTest {
    private ProbeTest() {
    }

    public static void main(String[] args) {
        notBegun();
        hypotheses();
        aHairThatIsFound();
        eachByThePlateAsItWasThen();
        knownOffsets();
        deadSince();
        noneHeld();
        full();
        nextProbe();
        nothingThatCanBeOff();
        Checks.end();
    }

    private static LightPlate lanes(int n) {
        return new LightPlate(n - 2);
    }

    private static void due(String what, long got, long want) {
        Checks.due(what, got, want);
    }

    private static void notBegun() {
        LightPlate x = lanes(2);
        due("probe", x.probe(0, 0), -3);
        due("probe of no lane", x.probe(0, 2), -1);
        due("probe of lane -1", x.probe(-1, 0), -1);
        due("held", x.held(-1), -3);
        due("held of none such", x.held(-7), -3);
        due("next", x.next(), -3);
    }

    private static void hypotheses() {
        int[] cells = {6, 12, 18, 24, 30};
        for (int n = 2; n <= 6; n++) due(n + " lanes", lanes(n).probing(), 1 + 4 * cells[n - 2]);
        LightPlate x = lanes(6);
        x.dies(0, 0, 5);
        x.dies(11, 3, 0);
        due("dead ones left out", x.probing(), 113);
        x.mend(0, 0);
        due("all are held", x.held(-1), 113);
        due("the first", x.held(0), 0);
        due("the last", x.held(112), 112);
        due("one more", x.held(113), -1);
        due("below", x.held(-2), -1);
        due("the greatest", x.held(Integer.MAX_VALUE), -1);
        due("begun anew", x.probing(), 117);
    }

    /** Two lanes, one cell in each even layer: all turns add up, so cells can't be told from one another. */
    private static void aHairThatIsFound() {
        LightPlate x = lanes(2);
        x.set(0, 0, 20);
        x.offset(4, 0, 2);
        x.probing();
        due("what is looked at", x.probe(0, 1), x.turn(22, 1));
        due("one of each cell", x.held(-1), 6);
        for (int i = 0; i < 6; i++) due("the " + i + "-th", x.held(i), 4 * i + 4);
        due("they can't be parted", x.next(), 0);
        due("again", x.probe(0, 1), x.turn(22, 1));
        due("held", x.held(-1), 6);
        x.offset(4, 0, -1);
        x.probing();
        x.probe(0, 1);
        for (int i = 0; i < 6; i++) due("the " + i + "-th by -1", x.held(i), 4 * i + 2);
    }

    private static void eachByThePlateAsItWasThen() {
        LightPlate x = lanes(2);
        x.set(0, 0, 20);
        x.probing();
        x.probe(0, 1);
        due("none is off", x.held(0), 0);
        due("alone", x.held(-1), 1);
        x.set(0, 0, 60);
        x.creep(1);
        due("held still", x.held(-1), 1);
        x.offset(0, 0, 1);
        x.probe(0, 1);
        due("none is held", x.held(-1), 0);
    }

    private static void knownOffsets() {
        LightPlate x = lanes(2);
        x.set(0, 0, 10);
        x.offset(0, 0, 5);
        x.run(1);
        x.found(0, 0, 4, 1);
        x.probing();
        x.probe(0, 1);
        due("one more than what is known", x.held(-1), 6);
        due("by 1", x.held(0), 3);
        x.run(1);
        x.found(0, 0, 5, 0);
        x.probing();
        x.probe(0, 1);
        due("known of an earlier tick is not known now", x.held(0), 3);
        x.found(0, 0, 5, 2);
        due("held by probes done", x.held(0), 3);
        x.probe(0, 1);
        due("none has both", x.held(-1), 0);
    }

    private static void deadSince() {
        LightPlate x = lanes(2);
        x.probing();
        x.dies(0, 0, 7);
        x.probe(0, 1);
        due("none, and those of the dead one, which do nothing", x.held(-1), 5);
        due("the last one of them", x.held(4), 4);
    }

    private static void noneHeld() {
        LightPlate x = lanes(2);
        x.offset(0, 0, 7);
        x.probing();
        x.probe(0, 1);
        due("none is held", x.held(-1), 0);
        due("the first", x.held(0), -1);
        due("next", x.next(), -3);
        due("a probe more", x.probe(0, 0), x.turn(7, 0));
        x.probing();
        due("begun anew", x.next(), 1);
    }

    private static void full() {
        LightPlate x = lanes(3);
        x.probing();
        for (int p = 0; p < 20; p++) due("probe " + p, x.probe(2, 2), 1);
        due("probe 20", x.probe(2, 2), -4);
        due("probe 20 of no lane", x.probe(3, 2), -1);
        Checks.holds("held as before", x.held(-1) > 0);
        Checks.holds("next as before", x.next() >= 0);
        x.probing();
        due("begun anew", x.probe(2, 2), 1);
    }

    /** All TURNS 0, two lanes: by TURN k in all C is seen at (0, 0), -S at (0, 1); C of 1 and of -1 are one. */
    private static void nextProbe() {
        LightPlate x = lanes(2);
        x.probing();
        due("S parts better than C", x.next(), 1);
        x.set(0, 0, 24);
        due("C parts better than S", x.next(), 0);
        x.set(0, 0, 12);
        due("of several the least j, then m", x.next(), 0);
        LightPlate y = lanes(6);
        y.set(0, 4, 24);
        y.offset(7, 3, 1);
        y.probing();
        int held = y.held(-1);
        for (int p = 0; p < 6; p++) {
            int best = y.next();
            Checks.holds("10 j and m: " + best, best >= 0 && best / 10 < 6 && best % 10 < 6);
            y.probe(best / 10, best % 10);
            Checks.holds("no more are held", y.held(-1) <= held);
            held = y.held(-1);
        }
        Checks.holds("few are left: " + held, held > 0 && held < 20);
    }

    private static void nothingThatCanBeOff() {
        LightPlate x = lanes(2);
        for (int layer = 0; layer < 12; layer += 2) x.dies(layer, 0, 5);
        due("all cells dead", x.probing(), 1);
        due("next", x.next(), 0);
        due("probe", x.probe(1, 0), x.turn(30, 1) == 0 ? 0 : 97 - x.turn(30, 1));
        due("held", x.held(-1), 1);
        due("the first", x.held(0), 0);
    }
}
