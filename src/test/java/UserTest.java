/** Promises 29 and 30: CLAIMS and MEETING. */
public final class UserTest {
    private UserTest() {
    }

    public static void main(String[] args) {
        claim();
        meeting();
        wrongClaims();
        Checks.end();
    }

    private static void due(String what, long got, long want) {
        Checks.due(what, got, want);
    }

    private static void claim() {
        LightPlate x = new LightPlate(1);
        due("claim", x.claim(0, 0, 0), -1);
        due("again", x.claim(0, 0, 0), 0);
        due("by the other", x.claim(1, 0, 0), -3);
        due("whose", x.cell(0, 0, 4), 0);
        due("by nobody", x.claim(-1, 0, 0), 0);
        due("by nobody again", x.claim(-1, 0, 0), -1);
        due("by the other then", x.claim(1, 0, 0), -1);
        due("by the first", x.claim(0, 0, 0), -3);
        due("by nobody from 1", x.claim(-1, 0, 0), 1);
        x.dies(0, 0, 5);
        due("a dead one", x.claim(1, 0, 0), -1);
    }

    private static void wrongClaims() {
        LightPlate x = new LightPlate(1);
        x.claim(0, 0, 0);
        for (int user : new int[] {2, -2, Integer.MAX_VALUE, Integer.MIN_VALUE}) due("user", x.claim(user, 0, 0), -5);
        due("no cell", x.claim(0, 0, 1), -5);
        due("no cell, no user", x.claim(7, 0, 1), -5);
        due("no layer", x.claim(0, 12, 0), -5);
        due("nobody of no cell", x.claim(-1, 1, 0), -5);
        due("whose", x.cell(0, 0, 4), 0);
    }

    private static void meeting() {
        LightPlate x = new LightPlate(4);
        due("none", x.meeting(), -5);
        x.claim(0, 0, 0);
        due("one of 0", x.meeting(), -5);
        x.claim(1, 0, 4);
        due("no light comes to both", x.meeting(), -5);
        x.claim(1, 1, 3);
        due("not yet to lane 3", x.meeting(), -5);
        x.claim(1, 2, 2);
        due("from lane 0 by 1 to 2, in two layers", x.meeting(), 0);
        x.claim(-1, 2, 2);
        x.claim(0, 1, 1);
        due("from lane 2 up and down", x.meeting(), 2);
        x.claim(-1, 1, 3);
        due("none again", x.meeting(), -5);
        x.claim(0, 0, 2);
        x.claim(1, 1, 3);
        due("its first layer counts", x.meeting(), 2);
        x.claim(-1, 1, 3);
        x.claim(1, 11, 3);
        due("the last layer", x.meeting(), 0);
        LightPlate y = new LightPlate(4);
        y.claim(1, 0, 4);
        y.claim(0, 1, 3);
        due("lanes 4 and 5", y.meeting(), 4);
        y.dies(0, 4, 0);
        due("whatever its turn", y.meeting(), 4);
        LightPlate z = new LightPlate(0);
        z.claim(0, 0, 0);
        z.claim(1, 2, 0);
        due("two lanes", z.meeting(), 0);
    }
}
