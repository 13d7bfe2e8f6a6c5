import java.util.Random;

/** Promise 17: PROGRAMS and their FAULTS. */
public final class ProgramTest {
    private ProgramTest() {
    }

    public static void main(String[] args) {
        statements();
        names();
        form();
        numbers();
        allNumbers();
        ends();
        nameFaults();
        tooMany();
        deep();
        whatStays();
        manyBesideTheModel();
        Checks.end();
    }

    private static void means(String text, String works) {
        LightPlate x = new LightPlate(4);
        int answer = Checks.program(x, text);
        Checks.due("program of \"" + text + "\"", answer, works.isEmpty() ? 0 : works.split(" ").length);
        Checks.same("works of \"" + text + "\"", Checks.works(x), works);
        Checks.due("the tape of \"" + text + "\" is empty then", x.count(5), 0);
    }

    private static void fault(String text, int answer) {
        LightPlate x = new LightPlate(4);
        Checks.program(x, "t 3 33");
        Checks.due("program of \"" + text + "\"", Checks.program(x, text), answer);
        Checks.same("works stay by \"" + text + "\"", Checks.works(x), "3:33");
        Checks.due("the tape of \"" + text + "\" is empty then", x.count(5), 0);
    }

    private static void statements() {
        means("t 0 0", "0:0");
        means("t 4 95", "4:95");
        means("s 4", "4:24");
        means("u 4 1", "4:95");
        means("u 4 0", "4:0");
        means("u 0 95", "0:1");
        means("t 0 10;t 1 9", "0:10 1:9");
        means("3(s 0;t 1 1)", "0:24 1:1 0:24 1:1 0:24 1:1");
        means("0(s 0)", "");
        means("9(t 0 1);t 1 1", "0:1 0:1 0:1 0:1 0:1 0:1 0:1 0:1 0:1 1:1");
        means("2(2(s 0);s 1)", "0:24 0:24 1:24 0:24 0:24 1:24");
        means("1(1(1(s 2)))", "2:24");
    }

    private static void names() {
        means("a=(s 0)", "");
        means("f=(s 0);f;f", "0:24 0:24");
        means("a=(s 0);a=(s 1);a", "1:24");
        means("a=(s 0);a;a=(s 1);a", "0:24 1:24");
        means("a=(s 0);b=(a;s 2);a=(s 1);b", "0:24 2:24");
        means("a=(s 0);a=(a;a);a=(a;a);a", "0:24 0:24 0:24 0:24");
        means("a=(b=(s 3);b);b;a", "3:24 3:24");
        means("0(a=(s 1));a", "1:24");
        means("a=(s 0);2(a;a=(s 1))", "0:24 0:24");
        means("a=(9(9(s 0)));s 1", "1:24");
        means("a=(9(9(s 0)));0(a);s 1", "1:24");
    }

    private static void form() {
        fault(";", -1000);
        fault("x", -1000);
        fault("g", -1000);
        fault("T 0 1", -1000);
        fault(" s 0", -1000);
        fault("(s 0)", -1000);
        fault("s 0 ", -1003);
        fault("s 0;", -1004);
        fault("s 0;;s 0", -1004);
        fault("s 0)", -1003);
        fault("s  0", -1002);
        fault("s0", -1001);
        fault("t 0  1", -1004);
        fault("t 0;s 0", -1003);
        fault("s 0 1", -1003);
        fault("t 0 1 2", -1005);
        fault("t 0 -1", -1004);
        fault("2 (s 0)", -1001);
        fault("2()", -1002);
        fault("2(s 0;)", -1006);
        fault("2(s 0))", -1006);
        fault("12(s 0)", -1001);
        fault("a =(s 0)", -1001);
        fault("a=s 0", -1002);
        fault("a=()", -1003);
        fault("a=(s 0)s 1", -1007);
        fault("aa", -1001);
        fault("a(s 0)", -1001);
        fault("2a", -1001);
        fault("s 0\u00ff", -1003);
        fault("\0", -1000);
    }

    private static void numbers() {
        fault("t 5 5", -1002);
        fault("t 50 5", -1002);
        fault("t 52", -1002);
        fault("t 5", -1002);
        fault("t 12 5", -1003);
        fault("t 12", -1003);
        fault("t 40 5", -1003);
        fault("t 123 5", -1003);
        fault("s 99", -1002);
        fault("s 49", -1003);
        fault("u 61 5", -1002);
        fault("2(s 70)", -1004);
        fault("t 50 99", -1002);
        fault("t 0 96", -1005);
        fault("t 0 99;x", -1005);
        fault("t 0 100", -1006);
        fault("t 0 961", -1005);
        fault("u 0 96", -1005);
        fault("t 00 5", -1003);
        fault("t 0 00", -1005);
        fault("t 0 05", -1005);
        fault("s 9", -1002);
        fault("s 5", -1002);
        fault("t 9", -1002);
        LightPlate x = new LightPlate(0);
        Checks.due("52 of 2 lanes", Checks.program(x, "t 52"), -1002);
        Checks.due("12 of 2 lanes", Checks.program(x, "t 12"), -1002);
        Checks.due("12 of 3 lanes", Checks.program(new LightPlate(1), "t 12"), -1003);
        Checks.due("22 of 3 lanes", Checks.program(new LightPlate(1), "t 22"), -1002);
        Checks.due("lane 1 of 2 lanes", Checks.program(x, "s 1"), -1002);
        Checks.due("lane 0 of 2 lanes", Checks.program(x, "s 0"), 1);
    }

    /** Every number as i and as k, for each number of LANES: it is fine, or its first digit is and its second isn't. */
    private static void allNumbers() {
        for (int n = 2; n <= 6; n++) {
            for (int number = 0; number < 100; number++) {
                int most = n - 2;
                int first = number < 10 ? number : number / 10;
                int want = number <= most ? 1 : first <= most ? -1003 : -1002;
                String who = n + " lanes, number " + number + " of ";
                Checks.due(who + "s", Checks.program(new LightPlate(n - 2), "s " + number), want);
                Checks.due(who + "t", Checks.program(new LightPlate(n - 2), "t " + number + " 0"), want);
                Checks.due(who + "u", Checks.program(new LightPlate(n - 2), "u " + number + " 95"), want);
                int turn = number <= 95 ? 1 : -1005;
                Checks.due(who + "a turn", Checks.program(new LightPlate(n - 2), "t 0 " + number), turn);
            }
        }
    }

    private static void ends() {
        fault("", -1000);
        fault("t", -1001);
        fault("t ", -1002);
        fault("t 0", -1003);
        fault("t 0 ", -1004);
        fault("s", -1001);
        fault("2", -1001);
        fault("2(", -1002);
        fault("2(s 0", -1005);
        fault("a=", -1002);
        fault("a=(", -1003);
        fault("a=(s 0", -1006);
        fault("2(2(s 0)", -1008);
    }

    private static void nameFaults() {
        fault("a", -2000);
        fault("a;a=(s 0)", -2000);
        fault("s 0;b", -2004);
        fault("a=(a)", -2003);
        fault("a=(s 0;b);b", -2007);
        fault("0(a)", -2002);
        fault("2(a;a=(s 0))", -2002);
        fault("b=(a);c", -2003);
        fault("a;x", -1002);
        fault("a;9(9(s 0))", -2000);
        fault("9(9(s 0));a", -2010);
    }

    private static void tooMany() {
        fault("9(s 0);s 1;s 2", -3000);
        fault("9(9(9(9(9(s 0)))))", -3000);
        fault("a=(9(9(s 0)));a", -3000);
        fault("9(9(s 0));s 5", -1012);
        means("5(s 0;s 1)", "0:24 1:24 0:24 1:24 0:24 1:24 0:24 1:24 0:24 1:24");
    }

    private static void deep() {
        means("1(".repeat(32) + "s 0" + ")".repeat(32), "0:24");
        means("9(".repeat(32) + "0(s 0)", -1000 - 70);
        means("1(".repeat(50), -1100);
        means("9(".repeat(31) + "0(s 0)" + ")".repeat(31), "");
        means("a=(".repeat(24) + "s 0" + ")".repeat(24) + ";", -1100);
    }

    private static void means(String text, int answer) {
        Checks.due("program of \"" + text + "\"", Checks.program(new LightPlate(4), text), answer);
    }

    private static void whatStays() {
        LightPlate x = new LightPlate(4);
        Checks.program(x, "a=(s 0);a");
        Checks.due("a name is forgotten by the next one", Checks.program(x, "a"), -2000);
        Checks.feed(x, "s 0;");
        Checks.feed(x, "s 1");
        Checks.due("fed in parts", x.program(), 2);
        Checks.due("an empty tape", x.program(), -1000);
        Checks.same("works stay", Checks.works(x), "0:24 1:24");
        Checks.due("a program that does nothing", Checks.program(x, "0(s 1)"), 0);
        Checks.same("works are its", Checks.works(x), "");
    }

    private static void manyBesideTheModel() {
        Random dice = new Random(17);
        for (int round = 0; round < 6000; round++) {
            int n = 2 + dice.nextInt(5);
            LightPlate x = new LightPlate(n - 2);
            Model y = new Model(n - 2);
            String text = new Texts(dice, n).text();
            y.tape = text;
            int want = y.program();
            Checks.due(n + " lanes, program of \"" + text + "\"", Checks.program(x, text), want);
            for (int w = 0; w < want; w++) {
                Checks.due("lane of work " + w + " of \"" + text + "\"", x.work(w, 0), y.work(w, 0));
                Checks.due("turn of work " + w + " of \"" + text + "\"", x.work(w, 1), y.work(w, 1));
            }
        }
    }
}
