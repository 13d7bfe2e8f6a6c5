import java.util.function.Supplier;

/** Boundary cases of the promises 16 and 17 (THE TAPE and PROGRAMS), sentence by sentence. */
public final class ProgramBoundaryTest {
    private static final int MIN = Integer.MIN_VALUE;
    private static final int MAX = Integer.MAX_VALUE;

    private ProgramBoundaryTest() {
    }

    public static void main(String[] args) {
        feedNumbers();
        feedBytes();
        feedFull();
        wholeTape();
        tapeIsEmptyThen();
        lanesOfStatements();
        turnsOfStatements();
        timesOfStatements();
        namesOfStatements();
        digitsOfNumbers();
        blanks();
        endsTooEarly();
        endsInAStatement();
        emptyStatements();
        wrongByteAnywhere();
        faultsOfNames();
        moreThanTen();
        kindsOfFaults();
        worksStay();
        Checks.end();
    }

    private static void due(String what, long got, long want) {
        Checks.due(what, got, want);
    }

    private static void means(String text, String works) {
        LightPlate x = new LightPlate(4);
        due("\"" + text + "\"", Checks.program(x, text), works.isEmpty() ? 0 : works.split(" ").length);
        Checks.same("works of \"" + text + "\"", Checks.works(x), works);
    }

    private static void answers(String text, int want) {
        due("\"" + text + "\"", Checks.program(new LightPlate(4), text), want);
    }

    private static void feedNumbers() {
        Checks.sentence(16, "BAD: n not 1 .. 8");
        due("1", new LightPlate(0).feed(0, 1), 1);
        due("8", new LightPlate(0).feed(0, 8), 8);
        for (int n : new int[] {-1, 0, 9, 10, MIN, MAX}) {
            Whole.refused("n " + n, Scenes.busy(3), x -> x.feed(0x7330, n), -2);
            Whole.refused("n " + n + ", nothing there yet", Scenes.fresh(3), x -> x.feed(0x7330, n), -2);
        }
    }

    private static void feedBytes() {
        Checks.sentence(16, "The n lowest bytes of w, the highest first, come behind THE TAPE's");
        LightPlate x = new LightPlate(4);
        due("three of eight", x.feed(0x1122334455732034L, 3), 3);
        due("one by one", x.feed(';', 1), 4);
        due("all eight", x.feed(0x7520332039353b73L, 8), 12);
        due("two", x.feed(0x2030, 2), 14);
        due("the program", x.program(), 3);
        Checks.same("s 4;u 3 95;s 0", Checks.works(x), "4:24 3:1 0:24");
        LightPlate y = new LightPlate(4);
        due("bytes of 255", y.feed(-1L, 8), 8);
        due("are no program", y.program(), -1000);
        y.feed(0x7320300000000000L, 8);
        due("bytes of 0 are bytes", y.program(), -1003);
        y.feed(0xf320L, 2);
        due("a byte is not cut to seven bits", y.program(), -1000);
        y.feed(Long.MIN_VALUE | 0x2073203073203030L, 8);
        due("the highest bit", y.program(), -1000);
    }

    private static void feedFull() {
        Checks.sentence(16, "THE TAPE (bytes, 100 at most); FULL");
        for (int n = 1; n <= 8; n++) {
            LightPlate x = new LightPlate(0);
            int size = 0;
            while (size + n <= 100) {
                size += n;
                due("by " + n, x.feed(0, n), size);
            }
            due("beyond, by " + n, x.feed(0, n), -4);
            due("bytes", x.count(5), size);
            if (size < 100) due("up to 100", x.feed(0, 100 - size), 100);
            due("one more", x.feed(0, 1), -4);
        }
        for (int n = 1; n <= 8; n++) {
            int many = n;
            Whole.refused(n + " more", Scenes.full(3), x -> x.feed(0, many), -4);
        }
        Supplier<LightPlate> some = () -> {
            LightPlate x = new LightPlate(1);
            Checks.feed(x, "s 0;".repeat(23) + "3");
            return x;
        };
        Whole.refused("8 behind 93", some, x -> x.feed(0x3b732030L, 8), -4);
        due("7 behind 93", some.get().feed(0x28732030293b73L, 7), 100);
        Checks.sentence(16, "BAD, ahead of FULL");
        Whole.refused("n 0 if full", Scenes.full(3), x -> x.feed(0, 0), -2);
        Whole.refused("n 9 if full", Scenes.full(3), x -> x.feed(0, 9), -2);
    }

    private static void wholeTape() {
        Checks.sentence(17, "THE TAPE of 100 bytes is a PROGRAM");
        String many = "0(" + "s 0;".repeat(23) + "s 0);s";
        answers(many, -1000 - many.length());
        String text = "0(" + "s 0;".repeat(22) + "s 0);u 4 1";
        due("bytes", text.length(), 100);
        means(text, "4:95");
        String deep = "1(".repeat(32) + "s 0" + ")".repeat(32);
        due("bytes of the deep one", deep.length(), 99);
        means(deep, "0:24");
        String names = "a=(".repeat(24) + "s 0" + ")".repeat(24) + ";";
        due("bytes of the names", names.length(), 100);
        answers(names, -1100);
        answers("0(" + "s 0;".repeat(24) + "s ", -1100);
        answers("1(".repeat(50), -1100);
        answers("9".repeat(100), -1001);
        answers("s 0;".repeat(25), -1100);
        answers("a=(s 0);" + "a;".repeat(45) + "a", -3000);
    }

    private static void tapeIsEmptyThen() {
        Checks.sentence(17, "THE TAPE, which is empty then");
        String[] texts = {"s 0", "x", "a", "9(9(s 0))", "", "0(s 0)", "2(s 0", "2(2(x", "a=(s 1;", "t 0"};
        for (String text : texts) {
            LightPlate x = new LightPlate(4);
            Checks.program(x, text);
            due("bytes behind \"" + text + "\"", x.count(5), 0);
            due("the next one", Checks.program(x, "t 1 1"), 1);
            due("an empty one", x.program(), -1000);
        }
        LightPlate full = Scenes.full(2).get();
        full.program();
        due("a full one is empty then", full.count(5), 0);
        due("and fed again", full.feed(0, 8), 8);
    }

    private static void lanesOfStatements() {
        Checks.sentence(17, "i 0 .. n - 2; a number that is too great: its last digit");
        for (int n = 2; n <= 6; n++) {
            for (String kind : new String[] {"s %d", "t %d 5", "u %d 5"}) {
                LightPlate x = new LightPlate(n - 2);
                due(n + " lanes, 0", Checks.program(x, String.format(kind, 0)), 1);
                due("its lane", x.work(0, 0), 0);
                due(n + " lanes, the last", Checks.program(x, String.format(kind, n - 2)), 1);
                due("its lane", x.work(0, 0), n - 2);
                due(n + " lanes, one more", Checks.program(x, String.format(kind, n - 1)), -1002);
                due(n + " lanes, 9", Checks.program(x, String.format(kind, 9)), -1002);
                due(n + " lanes, 10", Checks.program(x, String.format(kind, 10)), n == 2 ? -1002 : -1003);
                due(n + " lanes, 99", Checks.program(x, String.format(kind, 99)), -1002);
            }
        }
    }

    private static void turnsOfStatements() {
        Checks.sentence(17, "k 0 .. 95; s i (by 24); u i k (by 96 less k, modulo 96)");
        means("t 0 0;t 0 1;t 0 9;t 0 10;t 0 94;t 0 95", "0:0 0:1 0:9 0:10 0:94 0:95");
        means("u 0 0;u 0 1;u 0 9;u 0 10;u 0 48;u 0 95", "0:0 0:95 0:87 0:86 0:48 0:1");
        means("s 0;s 4", "0:24 4:24");
        for (String kind : new String[] {"t", "u"}) {
            for (int k = 96; k <= 99; k++) answers(kind + " 0 " + k, -1005);
            answers(kind + " 0 100", -1006);
            answers(kind + " 0 950", -1006);
            answers(kind + " 0 960", -1005);
        }
    }

    private static void timesOfStatements() {
        Checks.sentence(17, "n times, 0 .. 9");
        means("0(s 0)", "");
        means("1(s 0)", "0:24");
        means("9(s 0)", "0:24 0:24 0:24 0:24 0:24 0:24 0:24 0:24 0:24");
        answers("10(s 0)", -1001);
        answers("00(s 0)", -1001);
        answers("/(s 0)", -1000);
        answers(":(s 0)", -1000);
        answers("-1(s 0)", -1000);
    }

    private static void namesOfStatements() {
        Checks.sentence(17, "a-f = ( STATEMENTS )");
        for (char name = 'a'; name <= 'f'; name++) means(name + "=(s 1);" + name, "1:24");
        for (String none : new String[] {"`", "g", "A", "F", "z"}) answers(none + "=(s 1)", -1000);
        for (String none : new String[] {"`", "g", "A", "F", "z"}) answers("s 0;" + none, -1004);
        means("a=(s 0);b=(s 1);c=(s 2);d=(s 3);e=(s 4);f=(t 0 1);f;e;d;c;b;a", "0:1 4:24 3:24 2:24 1:24 0:24");
        Checks.sentence(17, "NAME (what it was told last)");
        means("a=(s 0);a=(s 1);a", "1:24");
        means("a=(s 0);a;a=(s 1)", "0:24");
        means("a=(s 0);a=(a;s 1);a", "0:24 1:24");
    }

    private static void digitsOfNumbers() {
        Checks.sentence(17, "Numbers of 1 or 2 digits, no 0 ahead of another");
        answers("t 00 5", -1003);
        answers("t 01 5", -1003);
        answers("s 00", -1003);
        answers("t 0 00", -1005);
        answers("t 0 01", -1005);
        answers("t 0 010", -1005);
        answers("t 0 123", -1006);
        answers("t 0 -0", -1004);
        answers("t 0 +1", -1004);
        answers("t 0 /", -1004);
        answers("t 0 :", -1004);
        answers("t 0 5/", -1005);
        answers("t 0 5:", -1005);
        answers("t / 5", -1002);
        answers("t : 5", -1002);
    }

    private static void blanks() {
        Checks.sentence(17, "one blank ahead of each number of t, s, u, none else");
        answers("t0 5", -1001);
        answers("t 05", -1003);
        answers("t 0  5", -1004);
        answers("t  0 5", -1002);
        answers("s\t0", -1001);
        answers(" s 0", -1000);
        answers("s 0 ", -1003);
        answers("t 0 5 ", -1005);
        answers("s 0; s 1", -1004);
        answers("s 0 ;s 1", -1003);
        answers("2 (s 0)", -1001);
        answers("2( s 0)", -1002);
        answers("2(s 0 )", -1005);
        answers("2(s 0) ", -1006);
        answers("a =(s 0)", -1001);
        answers("a= (s 0)", -1002);
        answers("a=( s 0)", -1003);
        answers("a=(s 0) ;a", -1007);
    }

    private static void endsInAStatement() {
        Checks.sentence(17, "the size of THE TAPE, if it ends too early: in each kind of STATEMENT");
        for (String text : new String[] {"t", "t ", "t 0", "t 4 ", "u", "u ", "u 0", "u 4 ", "s", "s ", "0", "9", "2(",
            "2(s", "2(s 0", "2(2(s 0)", "a=", "f=(", "f=(s ", "f=(s 0", "f=(2(s 0)"}) {
            answers(text, -1000 - text.length());
            answers("s 1;" + text, -1004 - text.length());
        }
    }

    /** Any beginning of a PROGRAM can go on, so it is one itself or ends too early. */
    private static void endsTooEarly() {
        Checks.sentence(17, "the size of THE TAPE, if it ends too early");
        String text = "a=(t 0 15;u 4 9);2(a;s 3);0(f=(s 0;1(f)));b=(s 1);b";
        String whole = " 1 16 25 41 43 49 51 ";
        for (int size = 0; size <= text.length(); size++) {
            LightPlate x = new LightPlate(4);
            int answer = Checks.program(x, text.substring(0, size));
            boolean isWhole = whole.contains(" " + size + " ");
            if (!isWhole) due("of " + size + " bytes", answer, -1000 - size);
            else Checks.holds("of " + size + " bytes: " + answer, answer > -1000 || answer <= -2000);
        }
    }

    private static void emptyStatements() {
        Checks.sentence(17, "STATEMENTS with ; between");
        answers("", -1000);
        answers(";", -1000);
        answers("s 0;", -1004);
        answers(";s 0", -1000);
        answers("s 0;;s 1", -1004);
        answers("2()", -1002);
        answers("2(;s 0)", -1002);
        answers("2(s 0;)", -1006);
        answers("a=()", -1003);
        answers("()", -1000);
        answers(")", -1000);
        answers("s 0)", -1003);
        answers("2(s 0))", -1006);
        answers("2(s 0)s 1", -1006);
        answers("2(s 0", -1005);
        answers("s 0s 1", -1003);
    }

    private static void wrongByteAnywhere() {
        Checks.sentence(17, "kind 1 the place of the first byte with which no PROGRAM can go on");
        String text = "a=(t 0 15;u 4 9);2(a;s 3);b=(s 1);b";
        for (int place = 0; place < text.length(); place++) {
            for (char wrong : new char[] {0, 10, 'g', 'S', '!', 127, 128, 255}) {
                answers(text.substring(0, place) + wrong + text.substring(place + 1), -1000 - place);
            }
        }
        answers(text + "\0", -1000 - text.length());
        answers("x".repeat(100), -1000);
        answers("0(" + "s 0;".repeat(24) + "s!", -1099);
    }

    private static void faultsOfNames() {
        Checks.sentence(17, "kind 2 the place of the first NAME that is used and was not told ahead");
        answers("a", -2000);
        answers("f", -2000);
        answers("a=(s 0);b", -2008);
        answers("a;a=(s 0)", -2000);
        answers("a=(a)", -2003);
        answers("a=(s 0);a=(a)", 0);
        answers("s 0;c;d", -2004);
        answers("0(e)", -2002);
        answers("b=(a);a=(s 0);b", -2003);
        answers("a=(s 0;b=(s 1);b);b", 1);
        answers("0(" + "s 0;".repeat(24) + "d)", -2098);
        answers("0(" + "s 0;".repeat(23) + "d);f", -2094);
        LightPlate x = new LightPlate(4);
        Checks.program(x, "a=(s 0);a");
        due("told in the PROGRAM ahead", Checks.program(x, "a"), -2000);
    }

    private static void moreThanTen() {
        Checks.sentence(17, "kind 3: the WORKS would be more than 10 (place 0)");
        means("9(s 0);s 1", "0:24 0:24 0:24 0:24 0:24 0:24 0:24 0:24 0:24 1:24");
        answers("9(s 0);s 1;s 2", -3000);
        answers("5(s 0;s 1)", 10);
        answers("5(s 0;s 1);0(s 0)", 10);
        answers("5(s 0;s 1);s 0", -3000);
        answers("s 0;5(s 0;s 1)", -3000);
        answers("4(s 0;s 1;s 2)", -3000);
        answers("a=(5(s 0));a;a", 10);
        answers("a=(5(s 0));a;a;s 0", -3000);
        answers("a=(5(s 0));2(a)", 10);
        answers("a=(5(s 0));3(a)", -3000);
        answers("a=(6(s 0;s 1));s 0", 1);
        answers("0(6(s 0;s 1))", 0);
        answers("9(".repeat(24) + "s 0" + ")".repeat(24), -3000);
        answers("8(".repeat(32) + "s 0" + ")".repeat(32), -3000);
        answers("0(" + "9(".repeat(30) + "s 0" + ")".repeat(31), 0);
    }

    private static void kindsOfFaults() {
        Checks.sentence(17, "kind 1; else kind 2; else kind 3");
        answers("a;x", -1002);
        answers("a;s 5", -1004);
        answers("a;", -1002);
        answers("9(9(s 0));x", -1010);
        answers("9(9(s 0));a", -2010);
        answers("a;9(9(s 0))", -2000);
        answers("9(9(s 0));a;", -1012);
    }

    private static void worksStay() {
        Checks.sentence(17, "(WORKS stay)");
        for (String text : new String[] {"", "t 0 5;x", "t 0 5;", "t 0 5;a", "t 0 5;9(9(s 0))"}) {
            LightPlate x = new LightPlate(4);
            Checks.program(x, "t 3 33;u 1 1");
            Checks.holds("a fault: \"" + text + "\"", Checks.program(x, text) <= -1000);
            Checks.same("works stay", Checks.works(x), "3:33 1:95");
        }
        LightPlate y = new LightPlate(4);
        Checks.program(y, "t 3 33");
        due("a PROGRAM of none", Checks.program(y, "0(s 0)"), 0);
        due("works are its", y.count(2), 0);
    }
}
