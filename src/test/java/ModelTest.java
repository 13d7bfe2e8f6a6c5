import java.util.Random;

/** Long runs of calls with fixed seeds, each answer beside the model's, which was written by other ways. */
public final class ModelTest {
    private final Random dice;
    private final LightPlate x;
    private final Model y;
    private final int number;
    private int calls = 0;

    private ModelTest(int number) {
        this.number = number;
        dice = new Random(number);
        int lanes = dice.nextInt(8) == 0 ? dice.nextInt() : dice.nextInt(5);
        x = new LightPlate(lanes);
        y = new Model(lanes);
    }

    public static void main(String[] args) {
        int runs = args.length > 0 ? Integer.parseInt(args[0]) : 400;
        int first = args.length > 1 ? Integer.parseInt(args[1]) : 0;
        for (int r = first; r < first + runs; r++) {
            ModelTest test = new ModelTest(r);
            // each run leans to some of the calls, so that rows get full and states get deep in some of them
            int[] lean = new int[31];
            for (int c = 0; c < lean.length; c++) lean[c] = test.dice.nextInt(4) == 0 ? 12 : 1 + test.dice.nextInt(4);
            while (test.calls < 500) test.oneCall(lean);
            test.lookAtAll();
        }
        Checks.end();
    }

    private void due(String call, int got, int want) {
        calls++;
        Checks.due("run " + number + " call " + calls + " lanes " + y.n + ": " + call, got, want);
    }

    private boolean seldom() {
        return dice.nextInt(25) == 0;
    }

    private int pick(int below) {
        if (!seldom()) return dice.nextInt(below);
        if (dice.nextBoolean()) return dice.nextInt(4 * below + 4) - below - 2;
        int[] far = {Integer.MAX_VALUE, Integer.MAX_VALUE - 1, Integer.MIN_VALUE, Integer.MIN_VALUE + 1};
        return far[dice.nextInt(far.length)];
    }

    private int layer() {
        return pick(dice.nextBoolean() ? 12 : 3);
    }

    /** Mostly a LANE where a CELL is in the LAYER. */
    private int cellLane(int layer) {
        int i = pick(y.n);
        return !y.isCell(layer, i) && !seldom() ? Math.floorMod(layer, 2) : i;
    }

    private int turn() {
        int kind = dice.nextInt(10);
        if (kind == 0) return 0;
        if (kind == 1) return 95 + dice.nextInt(2);
        if (kind == 2) return -1 - dice.nextInt(3);
        if (kind < 6) return dice.nextInt(5);
        return dice.nextInt(96);
    }

    private void oneCall(int[] lean) {
        int all = 0;
        for (int weight : lean) all += weight;
        int at = dice.nextInt(all);
        int which = 0;
        while (at >= lean[which]) at -= lean[which++];
        if (which < 9) plateCall(which);
        else if (which < 17) workCall(which);
        else if (which < 24) runCall(which);
        else lastCall(which);
    }

    private void plateCall(int which) {
        int l = layer();
        int i = cellLane(l);
        int k = turn();
        int what = pick(5);
        switch (which) {
            case 0: due("turn", x.turn(k * 7919, what % 3), y.turn(k * 7919, what % 3)); break;
            case 1: due("set(" + l + "," + i + "," + k + ")", x.set(l, i, k), y.set(l, i, k)); break;
            case 2:
                if (dice.nextInt(3) > 0) break;
                if (dice.nextBoolean()) k = 0;
                due("dies(" + l + "," + i + "," + k + ")", x.dies(l, i, k), y.dies(l, i, k));
                break;
            case 3: due("mend(" + l + "," + i + ")", x.mend(l, i), y.mend(l, i)); break;
            case 4: due("cell(" + l + "," + i + "," + what + ")", x.cell(l, i, what), y.cell(l, i, what)); break;
            case 5: table(); break;
            case 6: toldEntry(); break;
            case 7: due("take()", x.take(), y.take()); break;
            default: due("right()", x.right(), y.right()); break;
        }
    }

    private void table() {
        int r = pick(y.n);
        int c = pick(y.n);
        due("table(" + r + "," + c + ")", x.table(r, c), y.table(r, c));
    }

    private void toldEntry() {
        int r = pick(y.n);
        int c = pick(y.n);
        int v = pick(97);
        due("entry(" + r + "," + c + "," + v + ")", x.entry(r, c, v), y.entry(r, c, v));
    }

    private void workCall(int which) {
        int i = pick(15);
        int what = pick(3);
        switch (which) {
            case 9: due("split()", x.split(), y.split()); break;
            case 10: due("step(" + i + "," + what + ")", x.step(i, what), y.step(i, what)); break;
            case 11: due("undo()", x.undo(), y.undo()); break;
            case 12: due("work(" + i + "," + what + ")", x.work(i, what), y.work(i, what)); break;
            case 13: lay(); break;
            case 14: feedSome(); break;
            case 15: program(); break;
            default: due("count", x.count(what * i % 9), y.count(what * i % 9)); break;
        }
    }

    private void lay() {
        if (dice.nextInt(3) == 0) stickAtWork();
        due("lay()", x.lay(), y.lay());
        if (dice.nextInt(4) == 0) settings();
    }

    /** A CELL dies at just the TURN of one of the WORKS, so that it can do it. */
    private void stickAtWork() {
        int w = dice.nextInt(11);
        int l = dice.nextInt(6);
        due("dies", x.dies(l, y.work(w, 0), y.work(w, 1)), y.dies(l, y.work(w, 0), y.work(w, 1)));
    }

    private void feedSome() {
        long w = dice.nextLong();
        int n = pick(9);
        if (dice.nextInt(3) == 0) due("feed", x.feed(w, n), y.feed(w, n));
    }

    private void program() {
        if (y.count(5) > 0 && !seldom()) due("program()", x.program(), y.program());
        String text = new Texts(dice, y.n).text();
        if (seldom()) text = text + text;
        for (int from = 0; from < text.length(); from += 8) {
            String part = text.substring(from, Math.min(text.length(), from + 8));
            long w = 0;
            for (char c : part.toCharArray()) w = w << 8 | c;
            due("feed", x.feed(w, part.length()), y.feed(w, part.length()));
        }
        String tape = y.tape;
        due("program() of \"" + tape + "\"", x.program(), y.program());
        for (int i = 0; i < y.works.size(); i++) {
            due("work(" + i + ",0) of \"" + tape + "\"", x.work(i, 0), y.work(i, 0));
            due("work(" + i + ",1) of \"" + tape + "\"", x.work(i, 1), y.work(i, 1));
        }
    }

    private void runCall(int which) {
        int l = layer();
        int i = cellLane(l);
        int run = pick(Math.max(1, y.runs.size()));
        int n = dice.nextInt(19) - 9;
        switch (which) {
            case 17:
                int by = dice.nextBoolean() ? 1 + dice.nextInt(8) : dice.nextInt(103) - 2;
                due("creep(" + by + ")", x.creep(by), y.creep(by));
                break;
            case 18: due("offset(" + l + "," + i + "," + n + ")", x.offset(l, i, n), y.offset(l, i, n)); break;
            case 19: run(); break;
            case 20: due("out", x.out(run, i), y.out(run, i)); break;
            case 21: due("reworked(" + run + "," + i + ")", x.reworked(run, i), y.reworked(run, i)); break;
            case 22: due("since()", x.since(), y.since()); break;
            default:
                if (dice.nextBoolean() && y.isCell(l, i)) n = y.offset[l][i];
                due("found(" + l + "," + i + "," + n + "," + run + ")", x.found(l, i, n, run), y.found(l, i, n, run));
        }
    }

    private void run() {
        long limit = 1;
        for (int i = 0; i < y.n; i++) limit *= 97;
        long light = Math.floorMod(dice.nextLong(), limit);
        if (seldom()) light = limit - 2 + dice.nextInt(4);
        if (seldom()) light = dice.nextLong();
        due("run(" + light + ")", x.run(light), y.run(light));
    }

    private void lastCall(int which) {
        int l = layer();
        int i = cellLane(l);
        switch (which) {
            case 24: if (dice.nextInt(3) == 0) due("probing()", x.probing(), y.probing()); break;
            case 25: probe(); break;
            case 26:
                int h = dice.nextBoolean() ? -1 : pick(12);
                due("held(" + h + ")", x.held(h), y.held(h));
                break;
            case 27: due("next()", x.next(), y.next()); break;
            case 28:
                int user = dice.nextInt(3) - 1 + (seldom() ? dice.nextInt(5) - 2 : 0);
                if (user == -1 || dice.nextInt(4) == 0) due("claim", x.claim(user, l, i), y.claim(user, l, i));
                break;
            case 29: due("meeting()", x.meeting(), y.meeting()); break;
            default:
                int what = pick(8);
                due("count(" + what + ")", x.count(what), y.count(what));
        }
    }

    private void probe() {
        int j = pick(y.n);
        int m = pick(y.n);
        if (dice.nextInt(3) == 0) {
            int best = x.next();
            due("next()", best, y.next());
            if (best >= 0) {
                j = best / 10;
                m = best % 10;
            }
        }
        due("probe(" + j + "," + m + ")", x.probe(j, m), y.probe(j, m));
        due("held(-1)", x.held(-1), y.held(-1));
    }

    private void settings() {
        for (int l = 0; l < 12; l++) {
            for (int i = 0; i < y.n; i++) {
                Checks.due("setting " + l + "," + i + " of run " + number, x.cell(l, i, 0), y.cell(l, i, 0));
            }
        }
    }

    private void lookAtAll() {
        settings();
        for (int l = 0; l < 12; l++) {
            for (int i = 0; i < y.n; i++) {
                for (int what = 1; what < 5; what++) due("cell", x.cell(l, i, what), y.cell(l, i, what));
            }
        }
        for (int what = -1; what < 9; what++) due("count(" + what + ")", x.count(what), y.count(what));
    }
}
