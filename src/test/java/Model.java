import java.util.ArrayList;
import java.util.HashSet;
import java.util.List;
import java.util.Set;
import java.util.regex.Pattern;

/**
 * The document once more, written for plainness and by other ways than the class: tables as products of
 * matrices, TURNS by powers of 5, FAULTS by looking for texts that a PROGRAM can go on with, HELD from a list
 * of all PROBES. It answers every call of the face, for ModelTest to compare.
 */
final class Model {
    static final int P = 97;

    private record Found(int layer, int i, int n, int tick) { }

    private record RunKept(int[] light, int[] out, int[][] settings) { }

    private record ProbeDone(int j, int m, int seen, int[][] settings, int[][] stuck, int[][] known, int creep) { }

    private record Hypothesis(int layer, int i, int more) { }

    final int n;
    /** By LAYER and upper LANE. */
    int[][] setting = new int[12][6];
    int[][] stuck = filled(-1);
    int[][] offset = new int[12][6];
    int[][] user = filled(-1);
    int creep = 99;
    int[][] told;
    List<int[]> steps = new ArrayList<>();
    int[] signs = null;
    List<int[]> works = new ArrayList<>();
    String tape = "";
    int entries = 0;
    List<Found> founds = new ArrayList<>();
    List<RunKept> runs = new ArrayList<>();
    List<Hypothesis> hypotheses = null;
    List<ProbeDone> probes = new ArrayList<>();

    Model(int lanes) {
        n = ((lanes % 5) + 5) % 5 + 2;
        told = new int[n][n];
    }

    // ---- TURNS and tables

    static int mod(long v) {
        return (int) (((v % P) + P) % P);
    }

    static int power(int b, int e) {
        int r = 1;
        for (int i = 0; i < e; i++) r = mod((long) r * b);
        return r;
    }

    private static final int[] C = new int[96];
    private static final int[] S = new int[96];

    static {
        // 22 times 22 is -1, so C and 22 S of TURN k are together 5 to the k, and C less 22 S is 5 to the -k
        for (int k = 0; k < 96; k++) {
            int plus = power(5, k);
            int minus = power(5, 96 - k);
            C[k] = mod((plus + minus) * 49L);
            S[k] = mod((long) (plus - minus) * power(44, 95));
        }
    }

    int turn(int k, int what) {
        int t = ((k % 96) + 96) % 96;
        return what == 0 ? C[t] : what == 1 ? S[t] : -1;
    }

    private static int[][] filled(int v) {
        int[][] a = new int[12][6];
        for (int[] row : a) java.util.Arrays.fill(row, v);
        return a;
    }

    private static int[][] copy(int[][] a) {
        int[][] b = new int[a.length][];
        for (int i = 0; i < a.length; i++) b[i] = a[i].clone();
        return b;
    }

    int[][] identity() {
        int[][] t = new int[n][n];
        for (int i = 0; i < n; i++) t[i][i] = 1;
        return t;
    }

    int[][] product(int[][] a, int[][] b) {
        int[][] t = new int[n][n];
        for (int r = 0; r < n; r++) {
            for (int c = 0; c < n; c++) {
                long sum = 0;
                for (int x = 0; x < n; x++) sum += (long) a[r][x] * b[x][c];
                t[r][c] = mod(sum);
            }
        }
        return t;
    }

    int[][] turning(int i, int k) {
        int[][] t = identity();
        t[i][i] = C[k];
        t[i][i + 1] = mod(-S[k]);
        t[i + 1][i] = S[k];
        t[i + 1][i + 1] = C[k];
        return t;
    }

    int[][] tableOf(int[][] turns) {
        int[][] t = identity();
        for (int l = 0; l < 12; l++) {
            for (int i = 0; i < n; i++) {
                if (isCell(l, i)) t = product(turning(i, turns[l][i]), t);
            }
        }
        return t;
    }

    int[] times(int[][] t, int[] light) {
        int[] out = new int[n];
        for (int r = 0; r < n; r++) {
            long sum = 0;
            for (int c = 0; c < n; c++) sum += (long) t[r][c] * light[c];
            out[r] = mod(sum);
        }
        return out;
    }

    // ---- CELLS

    boolean isCell(int l, int i) {
        return l >= 0 && l <= 11 && i >= 0 && i <= n - 2 && (l + i) % 2 == 0;
    }

    boolean isLane(int x) {
        return x >= 0 && x < n;
    }

    int heatOf(int[][] settings, int[][] stuckAt, int l, int i) {
        if (!isCell(l, i)) return 0;
        int k = stuckAt[l][i] >= 0 ? stuckAt[l][i] : settings[l][i];
        return k <= 48 ? k : 96 - k;
    }

    int[][] trueTurns(int[][] settings, int[][] stuckAt, int[][] offsets, int by) {
        int[][] t = new int[12][6];
        for (int l = 0; l < 12; l++) {
            for (int i = 0; i < n; i++) {
                if (!isCell(l, i)) continue;
                int warm = heatOf(settings, stuckAt, l, i - 2) + heatOf(settings, stuckAt, l, i + 2);
                t[l][i] = stuckAt[l][i] >= 0 ? stuckAt[l][i]
                        : (settings[l][i] + warm / by + offsets[l][i] + 960) % 96;
            }
        }
        return t;
    }

    int[][] plainTurns() {
        int[][] t = copy(setting);
        for (int l = 0; l < 12; l++) {
            for (int i = 0; i < 6; i++) {
                if (stuck[l][i] >= 0) t[l][i] = stuck[l][i];
            }
        }
        return t;
    }

    int set(int l, int i, int k) {
        if (!isCell(l, i)) return -1;
        if (k < 0 || k > 95) return -2;
        if (entries == 60) return -4;
        entries++;
        int was = setting[l][i];
        setting[l][i] = k;
        return was;
    }

    int dies(int l, int i, int k) {
        if (!isCell(l, i)) return -1;
        if (k < 0 || k > 95) return -2;
        int was = stuck[l][i] < 0 ? 1 : 0;
        stuck[l][i] = k;
        return was;
    }

    int mend(int l, int i) {
        if (!isCell(l, i)) return -1;
        int was = stuck[l][i];
        stuck[l][i] = -1;
        return was < 0 ? -3 : was;
    }

    int cell(int l, int i, int what) {
        if (!isCell(l, i) || what < 0 || what > 4) return -1;
        if (what == 0) return setting[l][i];
        if (what == 1) return stuck[l][i];
        if (what == 2) return heatOf(setting, stuck, l, i);
        if (what == 3) return trueTurns(setting, stuck, offset, creep)[l][i];
        return user[l][i];
    }

    int table(int r, int c) {
        return isLane(r) && isLane(c) ? tableOf(plainTurns())[r][c] : -1;
    }

    // ---- a told table

    int entry(int r, int c, int v) {
        if (!isLane(r) || !isLane(c)) return -1;
        if (v < 0 || v > 96) return -2;
        int was = told[r][c];
        told[r][c] = v;
        return was;
    }

    int take() {
        int[][] now = tableOf(plainTurns());
        boolean same = java.util.Arrays.deepEquals(now, told);
        told = now;
        return same ? 0 : 1;
    }

    int right() {
        int[][] back = new int[n][n];
        for (int r = 0; r < n; r++) {
            for (int c = 0; c < n; c++) back[c][r] = told[r][c];
        }
        return java.util.Arrays.deepEquals(product(back, told), identity()) ? 1 : 0;
    }

    int split() {
        int[][] t = copy(told);
        steps = new ArrayList<>();
        signs = null;
        for (int c = 0; c <= n - 2; c++) {
            for (int r = n - 1; r >= c + 1; r--) {
                int k = 0;
                while (k < 96 && product(turning(r - 1, k), t)[r][c] != 0) k++;
                if (k == 96) return -10 - steps.size();
                t = product(turning(r - 1, k), t);
                steps.add(new int[] {r - 1, k});
            }
        }
        signs = new int[n];
        for (int i = 0; i < n; i++) signs[i] = t[i][i];
        return steps.size();
    }

    int step(int i, int what) {
        if (what == 2) return signs != null && isLane(i) ? signs[i] : -1;
        if (what < 0 || what > 2 || i < 0 || i >= steps.size()) return -1;
        return steps.get(i)[what];
    }

    int undo() {
        if (signs == null) return -3;
        List<int[]> back = new ArrayList<>();
        for (int[] step : steps) {
            if (step[1] != 0) back.add(0, new int[] {step[0], 96 - step[1]});
        }
        if (back.size() > 10) return -4;
        works = back;
        return works.size();
    }

    int work(int i, int what) {
        return i < 0 || i >= works.size() || what < 0 || what > 1 ? -1 : works.get(i)[what];
    }

    // ---- LAID

    /** Whether a LAYER may do just this set of WORKS, with these done ahead of it. */
    private boolean mayDo(int layer, int set, int done) {
        if ((set & done) != 0) return false;
        for (int w = 0; w < works.size(); w++) {
            if ((set >> w & 1) == 0) continue;
            int lane = works.get(w)[0];
            if (!isCell(layer, lane)) return false;
            for (int v = 0; v < w; v++) {
                boolean common = Math.abs(works.get(v)[0] - lane) <= 1;
                if (common && (done >> v & 1) == 0) return false;
            }
            if (stuck[layer][lane] >= 0 && stuck[layer][lane] != works.get(w)[1]) return false;
        }
        for (int i = 0; i < n; i++) {
            if (stuck[layer][i] > 0 && workAt(set, i) < 0) return false;
        }
        return true;
    }

    private int workAt(int set, int lane) {
        for (int w = 0; w < works.size(); w++) {
            if ((set >> w & 1) == 1 && works.get(w)[0] == lane) return w;
        }
        return -1;
    }

    private boolean way(int layer, int layers, int done, int[] sets, Set<Integer> dead) {
        int all = (1 << works.size()) - 1;
        if (layer == layers) return done == all;
        if (dead.contains(layer << 10 | done)) return false;
        for (int set = all; set >= 0; set--) {
            if (!mayDo(layer, set, done)) continue;
            sets[layer] = set;
            if (way(layer + 1, layers, done | set, sets, dead)) return true;
        }
        dead.add(layer << 10 | done);
        return false;
    }

    int lay() {
        int needed = 0;
        for (int l = 0; l < 12; l++) {
            for (int i = 0; i < 6; i++) {
                if (stuck[l][i] > 0) needed = l + 1;
            }
        }
        for (int layers = needed; layers <= 12; layers++) {
            int[] sets = new int[12];
            if (!way(0, layers, 0, sets, new HashSet<>())) continue;
            for (int l = 0; l < 12; l++) {
                for (int i = 0; i < n; i++) {
                    int w = l < layers ? workAt(sets[l], i) : -1;
                    if (isCell(l, i) && stuck[l][i] < 0) setting[l][i] = w < 0 ? 0 : works.get(w)[1];
                }
            }
            return layers;
        }
        return -5;
    }

    // ---- PROGRAMS

    private static final String TURN = "(?:[1-8][0-9]|9[0-5]|[0-9])(?![0-9])";
    private static final Pattern GROUP = Pattern.compile("(?:[0-9]|[a-f]=)\\((?:S|[a-f])(?:;(?:S|[a-f]))*\\)");
    private static final Pattern WHOLE = Pattern.compile("(?:S|[a-f])(?:;(?:S|[a-f]))*");
    private static final String[] ENDS = {
        "", "0", "0 0", " 0", " 0 0", "a", "(a", "=(a"
    };

    /** TURNS as they are written: i has one digit always. */
    private Pattern simple() {
        String lane = "[0-" + (n - 2) + "](?![0-9])";
        return Pattern.compile("[tu] " + lane + " " + TURN + "|s " + lane);
    }

    /** Whether a text is a PROGRAM: groups are replaced from the inside out. */
    boolean isProgram(String text) {
        if (text.indexOf('S') >= 0) return false;
        String t = simple().matcher(text).replaceAll("S");
        String before = "";
        while (!t.equals(before)) {
            before = t;
            t = GROUP.matcher(t).replaceAll("S");
        }
        return WHOLE.matcher(t).matches();
    }

    /** Whether some PROGRAM begins with the text: the text is ended in all ways that can matter. */
    boolean canGoOn(String text) {
        int open = 0;
        for (char c : text.toCharArray()) open += c == '(' ? 1 : c == ')' ? -1 : 0;
        for (String end : ENDS) {
            for (int close = 0; close <= open + 1; close++) {
                if (close < open && close > 0) continue;
                if (isProgram(text + end + ")".repeat(close))) return true;
            }
        }
        return false;
    }

    private int faultOfForm(String text) {
        for (int p = 0; p < text.length(); p++) {
            if (!canGoOn(text.substring(0, p + 1))) return p;
        }
        return isProgram(text) ? -1 : text.length();
    }

    private int faultOfNames(String text) {
        Set<Character> names = new HashSet<>();
        List<Character> open = new ArrayList<>();
        for (int p = 0; p < text.length(); p++) {
            char c = text.charAt(p);
            boolean name = c >= 'a' && c <= 'f';
            if (name && p + 1 < text.length() && text.charAt(p + 1) == '=') continue;
            if (name && !names.contains(c)) return p;
            if (c == '(') open.add(text.charAt(p - 1) == '=' ? text.charAt(p - 2) : '0');
            if (c == ')') names.add(open.remove(open.size() - 1));
        }
        return -1;
    }

    /** What STATEMENTS come to: numbers of WORKS may be great, so only 11 of a row are looked at. */
    private List<int[]> expand(String text, List<List<int[]>> names) {
        List<int[]> row = new ArrayList<>();
        int depth = 0;
        int from = 0;
        for (int p = 0; p <= text.length(); p++) {
            char c = p < text.length() ? text.charAt(p) : ';';
            if (c == '(') depth++;
            if (c == ')') depth--;
            if (c != ';' || depth > 0) continue;
            row.addAll(expandOne(text.substring(from, p), names));
            from = p + 1;
        }
        return row.size() > 11 ? new ArrayList<>(row.subList(0, 11)) : row;
    }

    private List<int[]> expandOne(String one, List<List<int[]>> names) {
        List<int[]> row = new ArrayList<>();
        char c = one.charAt(0);
        if (simple().matcher(one).matches()) {
            String[] parts = one.split(" ");
            int k = parts.length > 2 ? Integer.parseInt(parts[2]) : 24;
            row.add(new int[] {Integer.parseInt(parts[1]), c == 'u' ? (96 - k) % 96 : k});
        } else if (one.length() == 1) {
            row.addAll(names.get(c - 'a'));
        } else if (one.charAt(1) == '=') {
            names.set(c - 'a', expand(one.substring(3, one.length() - 1), names));
        } else {
            List<int[]> body = expand(one.substring(2, one.length() - 1), names);
            for (int time = 0; time < c - '0'; time++) row.addAll(body);
        }
        return row;
    }

    int feed(long w, int count) {
        if (count < 1 || count > 8) return -2;
        if (tape.length() + count > 100) return -4;
        for (int i = count - 1; i >= 0; i--) tape += (char) (w >> 8 * i & 255);
        return tape.length();
    }

    int program() {
        String text = tape;
        tape = "";
        int place = faultOfForm(text);
        if (place >= 0) return -1000 - place;
        place = faultOfNames(text);
        if (place >= 0) return -2000 - place;
        List<List<int[]>> names = new ArrayList<>();
        for (int i = 0; i < 6; i++) names.add(new ArrayList<>());
        List<int[]> row = expand(text, names);
        if (row.size() > 10) return -3000;
        works = row;
        return row.size();
    }

    // ---- RUNS

    int creep(int by) {
        if (by < 1 || by > 99) return -2;
        int was = creep;
        creep = by;
        return was;
    }

    int offset(int l, int i, int k) {
        if (!isCell(l, i)) return -1;
        if (k < -8 || k > 8) return -2;
        int was = offset[l][i];
        offset[l][i] = k;
        return was;
    }

    int run(long light) {
        if (light < 0) return -2;
        int[] row = new int[n];
        long left = light;
        for (int i = 0; i < n; i++) {
            row[i] = (int) (left % 97);
            left /= 97;
        }
        if (left > 0) return -2;
        if (runs.size() == 40) return -4;
        int[] out = times(tableOf(trueTurns(setting, stuck, offset, creep)), row);
        runs.add(new RunKept(row, out, copy(setting)));
        return runs.size() - 1;
    }

    int out(int run, int lane) {
        return run < 0 || run >= runs.size() || !isLane(lane) ? -1 : runs.get(run).out()[lane];
    }

    int knownAt(int l, int i, int tick) {
        for (int t = tick; t >= 0; t--) {
            for (int e = founds.size() - 1; e >= 0; e--) {
                Found f = founds.get(e);
                if (f.layer() == l && f.i() == i && f.tick() == t) return f.n();
            }
        }
        return 0;
    }

    int[][] known(int tick) {
        int[][] k = new int[12][6];
        for (int l = 0; l < 12; l++) {
            for (int i = 0; i < 6; i++) k[l][i] = knownAt(l, i, tick);
        }
        return k;
    }

    int[] rework(int run) {
        RunKept r = runs.get(run);
        return times(tableOf(trueTurns(r.settings(), stuck, known(run), creep)), r.light());
    }

    int reworked(int run, int lane) {
        return run < 0 || run >= runs.size() || !isLane(lane) ? -1 : rework(run)[lane];
    }

    int since() {
        for (int r = 0; r < runs.size(); r++) {
            if (!java.util.Arrays.equals(rework(r), runs.get(r).out())) return r;
        }
        return -5;
    }

    int found(int l, int i, int k, int tick) {
        if (!isCell(l, i)) return -1;
        if (k < -8 || k > 8 || tick < 0 || tick > runs.size()) return -2;
        if (entries == 60) return -4;
        founds.add(new Found(l, i, k, tick));
        return ++entries;
    }

    // ---- PROBES

    int probing() {
        hypotheses = new ArrayList<>();
        probes = new ArrayList<>();
        hypotheses.add(new Hypothesis(0, 0, 0));
        for (int l = 0; l < 12; l++) {
            for (int i = 0; i < n; i++) {
                if (!isCell(l, i) || stuck[l][i] >= 0) continue;
                for (int more : new int[] {-2, -1, 1, 2}) hypotheses.add(new Hypothesis(l, i, more));
            }
        }
        return hypotheses.size();
    }

    private int[][] tableBy(Hypothesis h, ProbeDone p) {
        int[][] offsets = copy(p.known());
        offsets[h.layer()][h.i()] += h.more();
        return tableOf(trueTurns(p.settings(), p.stuck(), offsets, p.creep()));
    }

    private ProbeDone now(int j, int m, int seen) {
        return new ProbeDone(j, m, seen, copy(setting), copy(stuck), known(runs.size()), creep);
    }

    int probe(int j, int m) {
        if (!isLane(j) || !isLane(m)) return -1;
        if (hypotheses == null) return -3;
        if (probes.size() == 20) return -4;
        int seen = tableOf(trueTurns(setting, stuck, offset, creep))[m][j];
        probes.add(now(j, m, seen));
        return seen;
    }

    private final List<Integer> heldNow = new ArrayList<>();
    private int probesSeen = -1;
    private List<Hypothesis> heldOf = null;

    /** Kept till a PROBE more is done, as the model would else be too slow to be asked often. */
    private List<Integer> heldOnes() {
        if (heldOf == hypotheses && probesSeen == probes.size()) return heldNow;
        heldNow.clear();
        for (int h = 0; h < hypotheses.size(); h++) {
            boolean held = true;
            for (ProbeDone p : probes) {
                held = held && tableBy(hypotheses.get(h), p)[p.m()][p.j()] == p.seen();
            }
            if (held) heldNow.add(h);
        }
        heldOf = hypotheses;
        probesSeen = probes.size();
        return heldNow;
    }

    int held(int i) {
        if (hypotheses == null) return -3;
        List<Integer> held = heldOnes();
        if (i == -1) return held.size();
        return i < 0 || i >= held.size() ? -1 : held.get(i);
    }

    int next() {
        if (hypotheses == null || heldOnes().isEmpty()) return -3;
        int[][][] groups = new int[n][n][97];
        ProbeDone p = now(0, 0, 0);
        for (int h : heldOnes()) {
            int[][] t = tableBy(hypotheses.get(h), p);
            for (int j = 0; j < n; j++) {
                for (int m = 0; m < n; m++) groups[j][m][t[m][j]]++;
            }
        }
        int best = -1;
        int least = Integer.MAX_VALUE;
        for (int j = 0; j < n; j++) {
            for (int m = 0; m < n; m++) {
                int greatest = java.util.Arrays.stream(groups[j][m]).max().getAsInt();
                if (greatest < least) {
                    least = greatest;
                    best = 10 * j + m;
                }
            }
        }
        return best;
    }

    // ---- USERS

    int claim(int who, int l, int i) {
        if (!isCell(l, i) || who < -1 || who > 1) return -5;
        int was = user[l][i];
        if (who >= 0 && was == 1 - who) return -3;
        user[l][i] = who;
        return was;
    }

    int meeting() {
        for (int lane = 0; lane < n; lane++) {
            Set<Integer> lit = new HashSet<>(Set.of(lane));
            Set<Integer> whose = new HashSet<>();
            for (int l = 0; l < 12; l++) {
                Set<Integer> then = new HashSet<>(lit);
                for (int x : lit) {
                    int i = isCell(l, x) ? x : x - 1;
                    if (!isCell(l, i)) continue;
                    then.add(i);
                    then.add(i + 1);
                    whose.add(user[l][i]);
                }
                lit = then;
            }
            if (whose.contains(0) && whose.contains(1)) return lane;
        }
        return -5;
    }

    int count(int what) {
        int dead = 0;
        int used = 0;
        for (int l = 0; l < 12; l++) {
            boolean in = false;
            for (int i = 0; i < 6; i++) {
                if (stuck[l][i] >= 0) dead++;
                in = in || stuck[l][i] >= 0 || setting[l][i] > 0;
            }
            if (in) used++;
        }
        int[] all = {n, dead, works.size(), runs.size(), entries, tape.length(), used, creep};
        return what < 0 || what >= all.length ? -1 : all[what];
    }
}
