import java.util.List;
import java.util.function.Function;
import java.util.function.Supplier;
import java.util.function.ToIntFunction;

/**
 * Refused calls change nothing: two objects are made by the same calls, one of them gets the refused call, and
 * then all that later calls could tell of the two must be the same. What is told is asked in parts, of new
 * objects each, as asking changes some of it and an object is used for 512 calls at most.
 */
final class Whole {
    private static final List<Function<LightPlate, String>> PARTS =
            List.of(Whole::plate, Whole::toldTable, Whole::worksAndTape, Whole::runs, Whole::reworked, Whole::probes);

    private Whole() {
    }

    static void refused(String what, Supplier<LightPlate> scene, ToIntFunction<LightPlate> call, int want) {
        for (Function<LightPlate, String> part : PARTS) {
            LightPlate x = scene.get();
            Checks.due(what, call.applyAsInt(x), want);
            String after = part.apply(x);
            String without = part.apply(scene.get());
            Checks.holds(what + " changed something: " + without + " became " + after, after.equals(without));
        }
    }

    private static void tell(StringBuilder text, int answer) {
        text.append(answer).append(' ');
    }

    private static String plate(LightPlate x) {
        StringBuilder text = new StringBuilder("plate ");
        int n = x.count(0);
        for (int what = 0; what < 8; what++) tell(text, x.count(what));
        for (int layer = 0; layer < 12; layer++) {
            for (int i = layer % 2; i < n - 1; i += 2) {
                for (int what = 0; what < 5; what++) tell(text, x.cell(layer, i, what));
            }
        }
        for (int r = 0; r < n; r++) {
            for (int c = 0; c < n; c++) tell(text, x.table(r, c));
        }
        tell(text, x.meeting());
        return text.toString();
    }

    private static String toldTable(LightPlate x) {
        StringBuilder text = new StringBuilder("told ");
        int n = x.count(0);
        tell(text, x.right());
        for (int i = 0; i < 15; i++) {
            for (int what = 0; what < 3; what++) tell(text, x.step(i, what));
        }
        for (int r = 0; r < n; r++) {
            for (int c = 0; c < n; c++) tell(text, x.entry(r, c, 0));
        }
        tell(text, x.undo());
        return text.append(Checks.works(x)).toString();
    }

    private static String worksAndTape(LightPlate x) {
        StringBuilder text = new StringBuilder("works ").append(Checks.works(x)).append(" laid ");
        tell(text, x.lay());
        text.append(Checks.settings(x)).append(" tape ");
        tell(text, x.program());
        return text.append(Checks.works(x)).toString();
    }

    private static String runs(LightPlate x) {
        StringBuilder text = new StringBuilder("runs ");
        for (int run = 0; run < x.count(3); run++) {
            for (int lane = 0; lane < Math.min(3, x.count(0)); lane++) tell(text, x.out(run, lane));
        }
        tell(text, x.since());
        tell(text, x.run(50));
        tell(text, x.found(0, 0, 1, 0));
        return text.toString();
    }

    private static String reworked(LightPlate x) {
        StringBuilder text = new StringBuilder("reworked ");
        for (int run = 0; run < x.count(3); run++) {
            for (int lane = 0; lane < 2; lane++) tell(text, x.reworked(run, lane));
        }
        return text.toString();
    }

    private static String probes(LightPlate x) {
        StringBuilder text = new StringBuilder("probes ");
        int held = x.held(-1);
        tell(text, held);
        for (int i = 0; i <= held; i++) tell(text, x.held(i));
        tell(text, x.next());
        for (int p = 0; p < 21; p++) {
            tell(text, x.probe(1, 1));
            tell(text, x.held(-1));
        }
        return text.toString();
    }
}
