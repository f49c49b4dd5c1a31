/** Promises 10 to 17, 19, 21 to 29, 31 and 32: what is asked of a valley, and of a sight in it. */
public final class AskedTest {
    private static final String A = "folk 70 5;folk 68 6;folk 40 3;folk 41 4;folk 8 1;folk 9 2;"
        + "child 2 0;child 2 1;child 4 2;child 4 3;child 5 2;work 20 10;work 7 4;";
    /** Child 4 has a strong grandparent, child 5 a weak one. */
    private static final String LINES = "folk 40 1;folk 40 1;folk 5 0;folk 5 0;child 2 0;child 3 1;child 4 2;child 5 3;";
    private static final String C = "folk 70 9;folk 70 2;" + LINES + "work 2 6;work 9 5;";
    private static final String D = "folk 70 9;folk 70 1;" + LINES + "work 9 5;work 30 6;";
    private static final String COUSINS = "folk 70 1;folk 40 1;folk 41 1;folk 5 1;folk 6 1;folk 7 1;folk 20 1;"
        + "child 1 0;child 2 0;child 3 1;child 4 2;work 30 1;work 9 1;";

    private AskedTest() {
    }

    public static void main(String[] args) {
        keepAndSoon();
        say();
        dare();
        plan();
        odds();
        power();
        kinship();
        lineAndElders();
        apartAndHouses();
        most();
        lotAndHeaps();
        loss();
        fits();
        noSuchValley();
        Check.finish();
    }

    private static PromiseValley of(String valley) {
        PromiseValley x = new PromiseValley();
        Check.told(x, 0, valley, 0);
        return x;
    }

    private static void keepAndSoon() {
        PromiseValley x = of(A);
        Check.due("keep(0, 4, 0, 1)", x.keep(0, 4, 0, 1), 0);
        Check.due("keep(0, 4, 0, 2)", x.keep(0, 4, 0, 2), 1);
        Check.due("keep(0, 5, 1, 1)", x.keep(0, 5, 1, 1), 1);
        Check.due("keep of age 40", x.keep(0, 2, 1, 9), -1);
        Check.due("keep of no folk", x.keep(0, 6, 1, 1), -1);
        Check.due("keep of folk -1", x.keep(0, -1, 1, 1), -1);
        Check.due("keep of no work", x.keep(0, 4, 2, 1), -1);
        Check.due("keep of work -1", x.keep(0, 4, -1, 1), -1);
        Check.due("keep in 0", x.keep(0, 4, 1, 0), -1);
        Check.due("keep in 10", x.keep(0, 4, 1, 10), -1);
        Check.due("keep in 9", x.keep(0, 4, 1, 9), 1);
        Check.due("soon(0, 4, 0)", x.soon(0, 4, 0), 2);
        Check.due("soon(0, 5, 1)", x.soon(0, 5, 1), 1);
        Check.due("soon of age 40", x.soon(0, 2, 1), -1);
        Check.due("soon of no folk", x.soon(0, 6, 1), -1);
        Check.due("soon of no work", x.soon(0, 4, 2), -1);
        x = of(COUSINS);
        Check.due("soon in 9", x.soon(0, 3, 1), 9);
        Check.due("soon never", x.soon(0, 3, 0), -1);
        Check.due("keep of an orphan", x.keep(0, 5, 1, 9), 0);
        Check.due("keep of age 9", of("folk 9 1;work 1 1;").keep(0, 0, 0, 1), 0);
        Check.due("keep of age 10", of("folk 10 1;work 1 1;").keep(0, 0, 0, 1), -1);
    }

    private static void say() {
        PromiseValley x = of(A);
        Check.due("say(3, 2)", x.say(0, 3, 2, -1), 2);
        Check.due("say(3, 2, 0)", x.say(0, 3, 2, 0), 4);
        Check.due("say(3, 2, 1)", x.say(0, 3, 2, 1), 5);
        Check.due("say(3, 2, 2)", x.say(0, 3, 2, 2), -1);
        Check.due("say(3, 2, -2)", x.say(0, 3, 2, -2), -1);
        Check.due("say(3, 1)", x.say(0, 3, 1, -1), -1);
        Check.due("say(3, 1, 1)", x.say(0, 3, 1, 1), -1);
        Check.due("say(2, 1)", x.say(0, 2, 1, -1), 1);
        Check.due("say(2, 1, 0)", x.say(0, 2, 1, 0), 4);
        Check.due("say(0, 1)", x.say(0, 0, 1, -1), 0);
        Check.due("say(0, 1, 0)", x.say(0, 0, 1, 0), -1);
        Check.due("say(4, 9)", x.say(0, 4, 9, -1), -1);
        Check.due("say(-1, 9)", x.say(0, -1, 9, -1), -1);
        Check.due("say(64, 9)", x.say(0, 64, 9, -1), -1);
        Check.due("say(3, 0)", x.say(0, 3, 0, -1), -1);
        Check.due("say(3, 10)", x.say(0, 3, 10, -1), -1);
        // the least for work 0 would leave none for work 1
        x = of(C);
        Check.due("say(3, 1)", x.say(0, 3, 1, -1), 2);
        Check.due("say(3, 1, 0)", x.say(0, 3, 1, 0), 5);
        Check.due("say(3, 1, 1)", x.say(0, 3, 1, 1), 4);
        Check.due("say(1, 1, 0)", x.say(0, 1, 1, 0), 4);
        Check.due("say(3, 9, 0)", x.say(0, 3, 9, 0), 4);
        // two works, one child
        x = of("folk 70 9;folk 40 1;folk 3 1;child 1 0;child 2 1;work 1 1;work 1 1;");
        Check.due("one for two", x.say(0, 3, 9, -1), -1);
        Check.due("one for one", x.say(0, 2, 9, 0), 2);
    }

    private static void dare(PromiseValley x, int n, int much, int first) {
        Check.due("dare(0, " + n + ", false)", x.dare(0, n, false), much);
        Check.due("dare(0, " + n + ", true)", x.dare(0, n, true), first);
    }

    private static void dare() {
        PromiseValley x = of(C);
        dare(x, 0, 0, -1);
        dare(x, 1, 6, 0);
        dare(x, 2, 1, 0);
        dare(x, 3, 1, 0);
        dare(x, 4, 1, 0);
        dare(x, 5, -999, -999);
        dare(x, -1, -999, -999);
        // work 0 takes the least child, without which work 1 can't be taken
        x = of(D);
        dare(x, 1, 6, 1);
        dare(x, 2, 5, 0);
        dare(x, 3, 5, 0);
        x = of("");
        dare(x, 0, 0, -1);
        dare(x, 4, 0, 6);
        // of no worth: the least that is as good as none
        dare(of("folk 70 9;folk 40 1;folk 3 1;child 1 0;child 2 1;work 30 0;work 1 0;"), 2, 0, 0);
        dare(of("folk 70 2;folk 40 1;folk 3 1;child 1 0;child 2 1;work 30 9;work 1 0;"), 2, 0, 1);
    }

    private static void plan(PromiseValley x, int n, int much, int which, int fewest) {
        Check.due("plan(0, " + n + ", 0)", x.plan(0, n, 0), much);
        Check.due("plan(0, " + n + ", 1)", x.plan(0, n, 1), which);
        Check.due("plan(0, " + n + ", 2)", x.plan(0, n, 2), fewest);
    }

    private static void plan() {
        PromiseValley x = of(D);
        plan(x, 1, 5, 1, 1);
        plan(x, 3, 6, 2, 2);
        plan(x, 4, 11, 3, 4);
        plan(x, 9, 11, 3, 2);
        plan(x, 0, -1, -1, -1);
        plan(x, 10, -1, -1, -1);
        Check.due("plan what 3", x.plan(0, 1, 3), -1);
        Check.due("plan what -1", x.plan(0, 1, -1), -1);
        plan(of(""), 1, 0, 0, 0);
        plan(of("folk 50 9;"), 1, 0, 0, 0);
        plan(of("work 1 9;"), 9, 0, 0, 0);
        // of several the least, and none without worth
        plan(of("folk 50 9;work 9 0;work 9 3;work 9 3;"), 1, 3, 2, 1);
        // nobody's strength goes to two works: 9 and 9 do 12 and 5 not, though 18 is more
        plan(of("folk 1 9;folk 1 9;work 12 7;work 5 6;"), 1, 7, 1, 2);
        plan(of(Check.times(10, "folk 50 3;") + "work 6 1;work 6 2;work 7 3;work 1 4;work 4 5;"), 1, 15, 31, 10);
        plan(of(Check.times(10, "folk 50 3;") + "work 6 1;work 6 2;work 7 3;work 1 4;work 4 5;work 1 0;"), 1, 15, 31, 10);
        plan(of(Check.times(10, "folk 50 3;") + "work 6 1;work 6 2;work 7 3;work 1 4;work 4 5;work 1 1;"), 1, 15, 31, 10);
    }

    private static void odds(PromiseValley x, int folk, int work, int n, long top, long under) {
        String call = "odds(0, " + folk + ", " + work + ", " + n + ")";
        Check.due(call, x.odds(0, folk, work, n, false), top);
        Check.due(call + " under", x.odds(0, folk, work, n, true), under);
    }

    private static void odds() {
        PromiseValley x = of(A);
        odds(x, 4, 1, 1, 3, 25);
        odds(x, 4, 1, 2, 29, 50);
        odds(x, 4, 0, 2, 3, 25);
        odds(x, 5, 0, 4, 29, 50);
        odds(x, 5, 0, 1, 0, 1);
        odds(x, 3, 0, 1, -1, -1);
        odds(x, 6, 0, 1, -1, -1);
        odds(x, 4, 2, 1, -1, -1);
        odds(x, 4, 0, 0, -1, -1);
        odds(x, 4, 0, 10, -1, -1);
        odds(of(COUSINS), 5, 0, 9, 0, 1);
        // sure below 10, one of ten from 90 on
        String three = "folk 40 1;folk 3 1;child 1 0;child 2 1;work 3 1;";
        odds(of("folk 9 3;" + three), 2, 0, 1, 1, 1);
        odds(of("folk 10 3;" + three), 2, 0, 1, 9, 10);
        odds(of("folk 99 3;" + three), 2, 0, 1, 1, 10);
    }

    private static void power(PromiseValley x, int n, int elder, long top, long under) {
        Check.due("power of " + elder + " in " + n, x.power(0, 5, 0, n, elder, false), top);
        Check.due("power of " + elder + " in " + n + " under", x.power(0, 5, 0, n, elder, true), under);
    }

    private static void power() {
        // grandparents 0, 1, 2 of strength 4, 3, 2
        String valley = "folk 70 4;folk 70 3;folk 70 2;folk 40 1;folk 40 1;folk 3 1;"
            + "child 3 0;child 3 1;child 4 2;child 5 3;child 5 4;";
        PromiseValley x = of(valley + "work 6 1;");
        power(x, 1, 0, 2, 3);
        power(x, 1, 1, 1, 6);
        power(x, 1, 2, 1, 6);
        power(x, 2, 0, 1, 2);
        power(x, 2, 1, 1, 2);
        power(x, 2, 2, 0, 1);
        power(x, 3, 2, 1, 3);
        power(x, 1, 3, -1, -1);
        power(x, 1, 6, -1, -1);
        power(x, 1, -1, -1, -1);
        power(x, 0, 0, -1, -1);
        power(x, 10, 0, -1, -1);
        x = of(valley + "work 5 1;");
        power(x, 1, 0, 1, 3);
        power(x, 1, 2, 1, 3);
        x = of(valley + "work 10 1;");
        power(x, 1, 0, 0, 1);
        Check.due("power for a grown one", x.power(0, 3, 0, 1, 0, false), -1);
        Check.due("power of no work", x.power(0, 5, 1, 1, 0, false), -1);
    }

    private static void kinship(PromiseValley x, int a, int b, long top, long under, int wedding) {
        Check.due("kinship(0, " + a + ", " + b + ")", x.kinship(0, a, b, false), top);
        Check.due("kinship(0, " + b + ", " + a + ")", x.kinship(0, b, a, false), top);
        Check.due("kinship(0, " + a + ", " + b + ") under", x.kinship(0, a, b, true), under);
        Check.due("wedding(0, " + a + ", " + b + ")", x.wedding(0, a, b), wedding);
        Check.due("wedding(0, " + b + ", " + a + ")", x.wedding(0, b, a), wedding);
    }

    private static void kinship() {
        PromiseValley x = of(A);
        kinship(x, 0, 1, 0, 1, 1);
        kinship(x, 2, 0, 1, 4, 0);
        kinship(x, 4, 5, 1, 8, 0);
        kinship(x, 2, 3, 0, 1, 1);
        kinship(x, 0, 0, 1, 2, -1);
        kinship(x, 0, 6, -1, -1, -1);
        kinship(x, -1, 0, -1, -1, -1);
        // the child of a brother and a sister
        x = of("folk 90 1;folk 90 1;folk 60 1;folk 60 1;folk 40 1;child 2 0;child 2 1;child 3 0;child 3 1;child 4 2;child 4 3;");
        kinship(x, 2, 3, 1, 4, 0);
        kinship(x, 4, 4, 5, 8, -1);
        kinship(x, 4, 0, 1, 4, 0);
        // children of one parent: 1 by 8, no wedding; their children: 1 by 32
        x = of("folk 90 1;folk 60 1;folk 61 1;folk 40 1;folk 16 1;folk 15 1;child 1 0;child 2 0;child 3 1;child 4 2;child 5 2;");
        kinship(x, 1, 2, 1, 8, 0);
        kinship(x, 3, 4, 1, 32, 1);
        kinship(x, 3, 5, 1, 32, 0);
    }

    private static void lineAndElders() {
        PromiseValley x = of(A);
        int[] row = {-1, 3, 0, 2, 4, -1};
        for (int k = -2; k <= 3; k++) {
            Check.due("line(0, " + k + ")", x.line(0, k), row[k + 2]);
        }
        x = of("folk 1 1;folk 1 1;");
        Check.due("line of one", x.line(0, -1), 1);
        Check.due("the first of several", x.line(0, 0), 0);
        x = of("");
        Check.due("line of nobody", x.line(0, -1), 0);
        Check.due("nobody", x.line(0, 0), -1);
        x = of(Check.times(6, "folk 1 1;") + "child 1 0;child 2 0;child 3 1;child 4 2;");
        Check.due("0 1 3, not 0 2 4", x.line(0, 2), 3);
        // longer than 0 1, and 7 is not ahead of 5
        int[] longer = {2, 4, 5, 6};
        x = of(Check.times(8, "folk 1 1;") + "child 1 0;child 4 2;child 5 4;child 6 5;child 7 4;");
        Check.due("the longest", x.line(0, -1), 4);
        for (int k = 0; k < 4; k++) {
            Check.due("of the longest", x.line(0, k), longer[k]);
        }
        x = of(A);
        Check.due("elders of 4", x.elders(0, 4, false), 15);
        Check.due("elders of 5", x.elders(0, 5, false), 7);
        Check.due("elders of 0", x.elders(0, 0, false), 0);
        Check.due("young of 0", x.elders(0, 0, true), 52);
        Check.due("young of 3", x.elders(0, 3, true), 16);
        Check.due("young of 4", x.elders(0, 4, true), 0);
        Check.due("elders of 6", x.elders(0, 6, false), -1);
        Check.due("young of -1", x.elders(0, -1, true), -1);
    }

    private static void houses(PromiseValley x, int... want) {
        for (int what = 0; what < want.length; what++) {
            Check.due("houses(0, " + what + ")", x.houses(0, what), want[what]);
        }
        Check.due("houses(0, 9)", x.houses(0, 9), -2);
        Check.due("houses(0, -1)", x.houses(0, -1), -2);
    }

    private static void apartAndHouses() {
        PromiseValley x = of(A);
        Check.due("apart(4, 5)", x.apart(0, 4, 5), 2);
        Check.due("apart(3, 5)", x.apart(0, 3, 5), 3);
        Check.due("apart(5, 3)", x.apart(0, 5, 3), 3);
        Check.due("apart(0, 1)", x.apart(0, 0, 1), 2);
        Check.due("apart(2, 0)", x.apart(0, 2, 0), 1);
        Check.due("apart(3, 3)", x.apart(0, 3, 3), 0);
        Check.due("apart(3, 6)", x.apart(0, 3, 6), -1);
        Check.due("apart(-1, 0)", x.apart(0, -1, 0), -1);
        houses(x, 1, 6, 11, 0, 0, 0, 2, 1, 16);
        x = of(COUSINS);
        Check.due("apart for ever", x.apart(0, 0, 5), -1);
        houses(x, 3, 5, 97, 32, 1, 0, 2, 1, 8);
        houses(of(C), 2, 3, 3, 0, 0, 0, 1, 2, 48);
        houses(of(""), 0, 0, 0, 0, 0, -1, 0, 0, 0);
        houses(of("folk 10 1;"), 1, 1, 1, 0, 0, -1, 0, 0, 0);
        String row = Check.times(10, "folk 20 1;");
        for (int f = 1; f < 10; f++) {
            row += "child " + f + " " + (f - 1) + ";";
        }
        x = of(row);
        Check.due("nine steps", x.apart(0, 0, 9), 9);
        Check.due("line of ten", x.line(0, -1), 10);
        houses(x, 1, 10, 1, 0, 0, -1, 0, 0, 0);
        // 5, of grandparents 0 and 1, spares 4, of 0 alone
        x = of("folk 70 1;folk 70 1;folk 40 1;folk 40 1;folk 3 1;folk 3 1;child 2 0;child 3 0;child 3 1;child 4 2;child 5 3;");
        houses(x, 1, 6, 3, 0, 1, 0, 2, 1, 32);
    }

    private static void most(PromiseValley x, int n, int never, int many, int worth) {
        Check.due("most(0, " + n + ", 0)", x.most(0, n, 0), never);
        Check.due("most(0, " + n + ", 1)", x.most(0, n, 1), many);
        Check.due("most(0, " + n + ", 2)", x.most(0, n, 2), worth);
    }

    private static void most() {
        PromiseValley x = of(A);
        most(x, 1, 1, 1, 4);
        most(x, 2, 0, 2, 14);
        most(x, 0, -1, -1, -1);
        most(x, 10, -1, -1, -1);
        Check.due("most what 3", x.most(0, 1, 3), -1);
        Check.due("most what -1", x.most(0, 1, -1), -1);
        most(of(C), 1, 0, 2, 11);
        most(of("work 1 1;work 2 2;"), 9, 3, 0, 0);
        most(of(""), 9, 0, 0, 0);
        // one child, three works: the one of most worth
        most(of("folk 70 9;folk 40 1;folk 3 1;child 1 0;child 2 1;work 1 4;work 9 8;work 10 9;"), 1, 4, 1, 8);
    }

    private static void lot(PromiseValley x, int s, int much, int which) {
        Check.due("lot(0, " + s + ", false)", x.lot(0, s, false), much);
        Check.due("lot(0, " + s + ", true)", x.lot(0, s, true), which);
    }

    private static void heaps(String valley, int all, int halves) {
        PromiseValley x = of(valley);
        Check.due("all of " + valley, x.heaps(0, false), all);
        Check.due("halves of " + valley, x.heaps(0, true), halves);
    }

    private static void lotAndHeaps() {
        PromiseValley x = of(A);
        lot(x, 0, 0, 0);
        lot(x, 6, 0, 0);
        lot(x, 7, 4, 2);
        lot(x, 20, 10, 1);
        lot(x, 26, 10, 1);
        lot(x, 27, 14, 3);
        lot(x, 99, 14, 3);
        lot(x, 100, -1, -1);
        lot(x, -1, -1, -1);
        lot(of("work 5 0;work 5 3;work 5 3;"), 9, 3, 2);
        lot(of(""), 9, 0, 0);
        heaps(A, 2, 13);
        heaps("", 0, 0);
        heaps("folk 1 1;", 0, 0);
        heaps("work 5 1;", -1, 5);
        heaps("folk 1 0;work 1 1;", -1, 1);
        String three = "work 30 1;work 30 1;work 30 1;";
        heaps("folk 1 1;" + three + "work 9 1;", 99, 21);
        heaps("folk 1 1;" + three + "work 10 1;", -1, 20);
        heaps("folk 1 2;work 8 1;work 7 1;work 6 1;work 5 1;work 4 1;", 15, 0);
    }

    private static void loss() {
        PromiseValley x = of(A);
        Check.due("loss(0, 1)", x.loss(0, 0, 1), 2);
        Check.due("loss(1, 1)", x.loss(0, 1, 1), 2);
        Check.due("loss(0, 2)", x.loss(0, 0, 2), 2);
        Check.due("loss(0, 9)", x.loss(0, 0, 9), 0);
        Check.due("loss(2, 1)", x.loss(0, 2, 1), 0);
        Check.due("loss(4, 1)", x.loss(0, 4, 1), 0);
        Check.due("loss(0, 0)", x.loss(0, 0, 0), -1);
        Check.due("loss(0, 10)", x.loss(0, 0, 10), -1);
        Check.due("loss(6, 1)", x.loss(0, 6, 1), -1);
        Check.due("loss(-1, 1)", x.loss(0, -1, 1), -1);
    }

    /** Of fits: how many, SURE, ASK, then all that FIT; what comes behind these is not there. */
    private static void fits(String valley, String sight, int later, int many, int sure, int ask, int... each) {
        PromiseValley x = of(valley);
        Check.told(x, 2, sight, 0);
        Check.due("fits 0 of " + sight, x.fits(0, 0, 0), many);
        Check.due("fits 1 of " + sight, x.fits(0, 0, 1), sure);
        Check.due("fits 2 of " + sight, x.fits(0, 0, 2), ask);
        for (int k = 0; k < each.length; k++) {
            Check.due("fits " + (10 + k) + " of " + sight, x.fits(0, 0, 10 + k), each[k]);
        }
        Check.due("no more fit " + sight, x.fits(0, 0, 10 + each.length), -2);
        Check.due("fits 3", x.fits(0, 0, 3), -2);
        Check.due("fits 9", x.fits(0, 0, 9), -2);
        Check.due("fits -1", x.fits(0, 0, -1), -2);
        Check.due("later of " + sight, x.later(0, 0), later);
    }

    private static void share(String valley, String sight, int folk, long top, long under) {
        PromiseValley x = of(valley);
        Check.told(x, 2, sight, 0);
        Check.due("share of " + folk + " by " + sight, x.share(0, 0, folk, false), top);
        Check.due("share of " + folk + " by " + sight + " under", x.share(0, 0, folk, true), under);
    }

    private static void fits() {
        fits(A, "", 4, 4, -1, 0, 40, 41, 50, 51);
        fits(A, "dug 0 11;", 2, 2, -1, 0, 40, 50);
        fits(A, "years 2;dug 0 20;dug 1 0;", 2, 2, -1, 0, 40, 50);
        fits(A, "dug 0 11;dug 0 10;", 0, 0, -1, -1);
        fits(A, "dug 0 11;dug 1 7;", 0, 0, -1, -1);
        fits(A, "dug 2 0;", -2, -2, -2, -2);
        fits(A + "bound 21;", "", 3, 4, -1, 0, 40, 41, 50, 51);
        fits(A + "bound 21;", "years 2;dug 0 11;", 0, 1, 5, 0, 50);
        fits(A + "bound 21;", "years 9;dug 1 0;", 1, 2, -1, 0, 40, 50);
        fits("", "", 0, 0, -1, -1);
        fits("", "dug 0 0;", -2, -2, -2, -2);
        // what is free is promised all the same
        fits("folk 3 1;work 5 5;work 6 6;", "dug 1 0;", 0, 2, 0, 0, 0, 1);
        // work 0 tells nothing, work 1 tells them apart: 9 or 2 a year
        fits(C + "work 30 1;", "dug 0 0;dug 1 0;", 1, 2, -1, 2, 42, 52);
        share(A, "", 4, 1, 2);
        share(A, "", 3, 0, 1);
        share(A, "", 6, -1, -1);
        share(A, "", -1, -1, -1);
        share(A, "dug 0 3;", 4, -1, -1);
        share(A, "dug 2 0;", 4, -1, -1);
        share(A + "bound 21;", "years 2;dug 0 11;", 5, 1, 1);
        share(A + "bound 21;", "years 2;dug 0 11;", 4, 0, 1);
        share(A + "bound 21;", "years 2;dug 1 0;dug 1 0;", 5, 1, 2);
        share(COUSINS, "dug 0 1;", 3, 1, 2);
        share(COUSINS, "dug 0 0;", 5, 1, 2);
        share(COUSINS, "dug 0 0;", 4, 1, 4);
    }

    /** Each call of a valley that is not there, with others that are. */
    private static void noSuchValley() {
        PromiseValley x = of(A);
        Check.told(x, 1, "year;", 0);
        Check.told(x, 2, "", 0);
        for (int v : new int[] {-1, 1, 2, Integer.MIN_VALUE, Integer.MAX_VALUE}) {
            Check.due("keep", x.keep(v, 4, 0, 2), -1);
            Check.due("say", x.say(v, 1, 2, -1), -1);
            Check.due("dare", x.dare(v, 1, false), -999);
            Check.due("plan", x.plan(v, 1, 0), -1);
            Check.due("odds", x.odds(v, 4, 0, 2, false), -1);
            Check.due("power", x.power(v, 4, 0, 2, 0, false), -1);
            Check.due("kinship", x.kinship(v, 0, 0, false), -1);
            Check.due("line", x.line(v, -1), -1);
            Check.due("fits", x.fits(v, 0, 0), -2);
            Check.due("elders", x.elders(v, 0, false), -1);
            Check.due("apart", x.apart(v, 0, 0), -1);
            Check.due("houses", x.houses(v, 0), -2);
            Check.due("soon", x.soon(v, 4, 0), -1);
            Check.due("most", x.most(v, 1, 0), -1);
            Check.due("lot", x.lot(v, 1, false), -1);
            Check.due("heaps", x.heaps(v, false), -2);
            Check.due("loss", x.loss(v, 0, 1), -1);
            Check.due("wedding", x.wedding(v, 0, 1), -1);
            Check.due("share", x.share(v, 0, 4, false), -1);
            Check.due("later", x.later(v, 0), -2);
            Check.due("fits of no sight", x.fits(0, v, 0), -2);
            Check.due("share of no sight", x.share(0, v, 4, false), -1);
            Check.due("later of no sight", x.later(0, v), -2);
        }
    }
}
