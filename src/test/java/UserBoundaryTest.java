import java.util.function.Supplier;

/** Boundary cases of the promises 29 to 31 (users, and counts), sentence by sentence. */
public final class UserBoundaryTest {
    private static final int MIN = Integer.MIN_VALUE;
    private static final int MAX = Integer.MAX_VALUE;

    private UserBoundaryTest() {
    }

    public static void main(String[] args) {
        claimUsers();
        claimCells();
        claimStates();
        meetingNone();
        meetingLanes();
        meetingLayers();
        countRefusals();
        countsOfNothing();
        countsOfAll();
        layersInUse();
        Checks.end();
    }

    private static void due(String what, long got, long want) {
        Checks.due(what, got, want);
    }

    private static LightPlate of(int n) {
        return new LightPlate(n - 2);
    }

    private static void claimUsers() {
        Checks.sentence(29, "USERS 0, 1 (-1: by nobody); -5: there is no such USER");
        LightPlate x = of(3);
        due("nobody's, by nobody", x.claim(-1, 0, 0), -1);
        due("by 0", x.claim(0, 0, 0), -1);
        due("by nobody", x.claim(-1, 0, 0), 0);
        due("by 1", x.claim(1, 0, 0), -1);
        due("by nobody again", x.claim(-1, 0, 0), 1);
        for (int user : new int[] {-2, 2, 3, -3, MIN, MAX}) {
            Whole.refused("nobody's, by " + user, Scenes.fresh(3), y -> y.claim(user, 0, 0), -5);
            Whole.refused("one's, by " + user, Scenes.busy(3), y -> y.claim(user, 0, 0), -5);
        }
    }

    private static void claimCells() {
        Checks.sentence(29, "-5: there is no such CELL");
        for (int[] at : Scenes.noCells()) {
            for (int user = -2; user <= 2; user++) {
                due("by " + user + " at " + at[0] + "," + at[1], of(6).claim(user, at[0], at[1]), -5);
            }
            Whole.refused("at " + at[0] + "," + at[1], Scenes.busy(6), x -> x.claim(0, at[0], at[1]), -5);
        }
        for (int n = 2; n <= 6; n++) {
            LightPlate x = of(n);
            for (int layer = 0; layer < 12; layer++) {
                for (int i = layer % 2; i <= n - 2; i += 2) {
                    due("each can be", x.claim(i % 2, layer, i), -1);
                    due("whose it is", x.cell(layer, i, 4), i % 2);
                }
            }
        }
    }

    private static void claimStates() {
        Checks.sentence(29, "STATE: the other one has it (of a USER)");
        for (int user = 0; user < 2; user++) {
            int one = user;
            Supplier<LightPlate> claimed = () -> {
                LightPlate x = of(3);
                x.claim(one, 11, 1);
                return x;
            };
            Whole.refused("by the other than " + user, claimed, x -> x.claim(1 - one, 11, 1), -3);
            due("by the same", claimed.get().claim(user, 11, 1), user);
            due("by nobody", claimed.get().claim(-1, 11, 1), user);
            LightPlate x = claimed.get();
            x.claim(-1, 11, 1);
            due("by the other then", x.claim(1 - user, 11, 1), -1);
            due("another cell", x.claim(user, 9, 1), -1);
        }
        Checks.sentence(29, "-5, ahead of STATE");
        due("no user", Scenes.busy(3).get().claim(2, 0, 0), -5);
    }

    private static void meetingNone() {
        Checks.sentence(30, "-5: none");
        for (int n = 2; n <= 6; n++) {
            LightPlate x = of(n);
            due("nobody has any", x.meeting(), -5);
            for (int layer = 0; layer < 12; layer++) {
                for (int i = layer % 2; i <= n - 2; i += 2) x.claim(n % 2, layer, i);
            }
            due("one has all", x.meeting(), -5);
        }
        LightPlate y = of(4);
        y.claim(0, 0, 0);
        y.claim(1, 0, 2);
        due("in one layer", y.meeting(), -5);
        y.claim(-1, 0, 2);
        y.claim(1, 2, 0);
        due("one behind the other", y.meeting(), 0);
        y.claim(-1, 2, 0);
        due("nobody's again", y.meeting(), -5);
    }

    /** By CELLS of LAYERS 0 and 1 alone light of just some LANES comes to both. */
    private static void meetingLanes() {
        Checks.sentence(30, "the least LANE (going in) of which it is so");
        int[][] cases = {{0, 1, 0}, {2, 1, 2}, {2, 3, 2}, {4, 3, 4}};
        for (int[] c : cases) {
            for (int user = 0; user < 2; user++) {
                LightPlate x = of(6);
                x.claim(user, 0, c[0]);
                x.claim(1 - user, 1, c[1]);
                due("lanes " + c[0] + " and then " + c[1], x.meeting(), c[2]);
            }
        }
        LightPlate last = of(3);
        last.claim(0, 1, 1);
        last.claim(1, 3, 1);
        due("lane 0 comes by layer 0", last.meeting(), 0);
        LightPlate late = of(5);
        late.claim(0, 1, 3);
        late.claim(1, 3, 3);
        due("lanes 0 and 1 come too late to layer 1", late.meeting(), 2);
        LightPlate lowest = of(5);
        lowest.claim(0, 1, 3);
        lowest.claim(1, 2, 2);
        due("lane 2 by lane 3", lowest.meeting(), 2);
    }

    private static void meetingLayers() {
        Checks.sentence(30, "light that comes to a CELL by one of its LANES goes on in both, whatever its TURN");
        LightPlate x = of(6);
        x.claim(0, 0, 0);
        x.claim(1, 3, 3);
        due("lane 0 is in 0 to 3 by layer 2", x.meeting(), 0);
        x.claim(-1, 3, 3);
        x.claim(1, 2, 4);
        due("not in 4 by layer 2", x.meeting(), -5);
        x.claim(-1, 2, 4);
        x.claim(1, 4, 4);
        due("in 4 by layer 4", x.meeting(), 0);
        x.dies(1, 1, 0);
        x.dies(2, 2, 24);
        due("whatever the turns", x.meeting(), 0);
        LightPlate ends = of(3);
        ends.claim(0, 0, 0);
        ends.claim(1, 11, 1);
        due("the first layer and the last", ends.meeting(), 0);
        LightPlate up = of(5);
        up.claim(0, 0, 2);
        up.claim(1, 2, 0);
        due("lane 2 comes up to 1", up.meeting(), 2);
        LightPlate down = of(5);
        down.claim(0, 0, 0);
        down.claim(1, 2, 2);
        due("lane 0 comes down to 2", down.meeting(), 0);
        LightPlate two = of(2);
        two.claim(0, 0, 0);
        two.claim(1, 10, 0);
        due("two lanes", two.meeting(), 0);
    }

    private static void countRefusals() {
        Checks.sentence(31, "NONE");
        for (int what : new int[] {-1, 8, 9, MIN, MAX}) {
            Whole.refused("what " + what, Scenes.busy(3), x -> x.count(what), -1);
            due("what " + what + " of a new one", of(2).count(what), -1);
        }
    }

    private static void countsOfNothing() {
        Checks.sentence(31, "counts of nothing there yet");
        for (int n = 2; n <= 6; n++) {
            int[] due = {n, 0, 0, 0, 0, 0, 0, 99};
            for (int what = 0; what < 8; what++) due("count(" + what + ")", of(n).count(what), due[what]);
        }
    }

    private static void countsOfAll() {
        Checks.sentence(31, "counts of all places taken");
        LightPlate x = Scenes.full(6).get();
        for (int layer = 0; layer < 12; layer++) {
            for (int i = layer % 2; i <= 4; i += 2) x.dies(layer, i, 0);
        }
        x.creep(1);
        int[] due = {6, 30, 10, 40, 60, 100, 12, 1};
        for (int what = 0; what < 8; what++) due("count(" + what + ")", x.count(what), due[what]);
    }

    private static void layersInUse() {
        Checks.sentence(31, "6 LAYERS that have a SETTING above 0, or a DEAD CELL");
        for (int n = 3; n <= 6; n++) {
            LightPlate x = of(n);
            for (int layer = 0; layer < 12; layer++) {
                int last = (n - 2) - ((n - 2) + layer) % 2;
                x.set(layer, last, 0);
                due("a setting of 0", x.count(6), layer);
                x.set(layer, last, 1);
                due("a setting of 1", x.count(6), layer + 1);
                x.set(layer, last, 0);
                due("0 again", x.count(6), layer);
                x.dies(layer, layer % 2, 0);
                due("a dead cell stuck at 0", x.count(6), layer + 1);
                x.set(layer, last, 95);
                due("both: one layer", x.count(6), layer + 1);
            }
        }
        LightPlate y = of(2);
        y.set(0, 0, 5);
        y.dies(0, 0, 0);
        y.mend(0, 0);
        due("mended, a setting above 0", y.count(6), 1);
    }
}
