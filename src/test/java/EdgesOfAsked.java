/** Edges of terms 3 and 5 and of promises 10 to 15 and 24 to 28: keeping, saying, daring, planning, odds. */
final class EdgesOfAsked {
    private static final int MIN = Integer.MIN_VALUE;
    private static final int MAX = Integer.MAX_VALUE;
    private static final int[] NO_SPAN = {MIN, -9, -1, 0, 10, 11, MAX};
    private static final String SIX = Check.times(6, "work 9 1;");

    private EdgesOfAsked() {
    }

    static void run() {
        keepJustSize();
        keepByAge();
        keepByWhom();
        keepOfNoneSuch();
        soonJustInTime();
        soonNever();
        sayOfNoWorks();
        sayOfAllWorks();
        sayOfWorksNotThere();
        sayTheKth();
        sayInAnotherSpan();
        sayThatCannotBe();
        dareOfNoTurns();
        dareOfTurns();
        dareOfAnotherNumber();
        dareNone();
        dareTheLeastThatIsBest();
        dareInNineYears();
        planJustSize();
        planOfNothing();
        planTheLeast();
        planTheFewest();
        planOfAnotherNumber();
        oddsByAge();
        oddsOfTheSure();
        oddsOfNoneSuch();
        powerOfOneAndTwo();
        powerOfFour();
        powerOfNoGrandparent();
        neverInYears();
        mostByAnother();
        mostOfAnotherNumber();
        lotJustFull();
        lotTheLeast();
        lotOfAnotherNumber();
        allInYears();
        halves();
        heapsOfNoneSuch();
        lossJustSize();
        lossOfNone();
        lossOfNoneSuch();
    }

    static PromiseValley of(String valley) {
        PromiseValley x = new PromiseValley();
        Check.told(x, 0, valley, 0);
        return x;
    }

    /** FOLK 0 is the grandparent of that many children, from 2 on. */
    static String house(int strength, int children) {
        StringBuilder text = new StringBuilder("folk 70 " + strength + ";folk 40 0;child 1 0;");
        for (int c = 0; c < children; c++) {
            text.append("folk 5 0;child ").append(2 + c).append(" 1;");
        }
        return text.toString();
    }

    /** FOLK 0 to 3 are the grandparents of FOLK 6. */
    private static String four(int a, int b, int c, int d) {
        return "folk 50 " + a + ";folk 50 " + b + ";folk 50 " + c + ";folk 50 " + d + ";folk 30 0;folk 30 0;folk 5 0;"
            + "child 4 0;child 4 1;child 5 2;child 5 3;child 6 4;child 6 5;";
    }

    private static void fraction(String call, long over, long under, long wantOver, long wantUnder) {
        Check.due(call, over, wantOver);
        Check.due(call + " (under)", under, wantUnder);
    }

    private static long gcd(long a, long b) {
        return b == 0 ? a : gcd(b, a % b);
    }

    private static void keepJustSize() {
        Words.term(3, "can KEEP a WORK in n years, 1 .. 9, if n times the STRENGTHS of its GRANDPARENTS together is SIZE or more.");
        int[] sizes = {1, 9, 10, 18, 29, 30};
        for (int strength = 0; strength <= 9; strength++) {
            PromiseValley x = of(house(strength, 1) + "work 1 1;work 9 1;work 10 1;work 18 1;work 29 1;work 30 1;");
            for (int n = 1; n <= 9; n++) {
                for (int w = 0; w < 6; w++) {
                    String call = "keep(0, 2, " + w + ", " + n + ") by " + strength;
                    Check.due(call, x.keep(0, 2, w, n), n * strength >= sizes[w] ? 1 : 0);
                }
            }
        }
    }

    private static void keepByAge() {
        Words.promise(10, "NONE: it is of AGE 10 or more");
        for (int age : new int[] {0, 1, 8, 9, 10, 11, 98, 99}) {
            PromiseValley x = of(EdgesOfLives.line(9, age) + "work 9 1;");
            boolean child = age < 10;
            Check.due("keep at " + age, x.keep(0, 2, 0, 1), child ? 1 : -1);
            Check.due("soon at " + age, x.soon(0, 2, 0), child ? 1 : -1);
            fraction("odds at " + age, x.odds(0, 2, 0, 1, false), x.odds(0, 2, 0, 1, true), child ? 3 : -1, child ? 10 : -1);
            fraction("power at " + age, x.power(0, 2, 0, 1, 0, false), x.power(0, 2, 0, 1, 0, true), child ? 1 : -1, child ? 1 : -1);
            Check.due("say at " + age, x.say(0, 1, 1, -1), child ? 1 : -1);
            Check.due("dare at " + age, x.dare(0, 1, true), child ? 0 : 6);
            Check.due("never at " + age, x.most(0, 1, 0), child ? 0 : 1);
            Check.due("most at " + age, x.most(0, 1, 1), child ? 1 : 0);
            Check.due("loss at " + age, x.loss(0, 0, 1), child ? 1 : 0);
        }
    }

    private static void keepByWhom() {
        Words.term(2, "GRANDPARENTS of a FOLK are all PARENTS of its PARENTS.");
        // none, parents alone, one on both sides, one that is a parent too, four
        Check.due("without any", of("folk 5 9;work 1 1;").keep(0, 0, 0, 9), 0);
        Check.due("parents alone", of("folk 40 9;folk 40 9;folk 5 9;child 2 0;child 2 1;work 1 1;").keep(0, 2, 0, 9), 0);
        PromiseValley x = of("folk 70 3;folk 40 9;folk 40 9;folk 5 9;child 1 0;child 2 0;child 3 1;child 3 2;work 3 1;work 4 1;");
        Check.due("one on both sides", x.valley(0, 43), 1);
        Check.due("once", x.keep(0, 3, 0, 1), 1);
        Check.due("not twice", x.keep(0, 3, 1, 1), 0);
        x = of("folk 70 3;folk 40 9;folk 5 9;child 1 0;child 2 0;child 2 1;work 3 1;work 4 1;");
        Check.due("a parent too", x.valley(0, 42), 1);
        Check.due("a parent too keeps", x.keep(0, 2, 0, 1), 1);
        Check.due("the other parent not", x.keep(0, 2, 1, 1), 0);
        x = of(four(9, 9, 9, 3) + "work 30 1;");
        Check.due("four", x.valley(0, 46), 15);
        Check.due("four together", x.keep(0, 6, 0, 1), 1);
        Check.due("one less", of(four(9, 9, 9, 2) + "work 30 1;").keep(0, 6, 0, 1), 0);
    }

    private static void keepOfNoneSuch() {
        Words.promise(10, "another n, or there is none such (of any).");
        PromiseValley x = of(house(9, 1) + "work 9 1;");
        for (int n : NO_SPAN) {
            Check.due("keep in " + n, x.keep(0, 2, 0, n), -1);
        }
        for (int folk : new int[] {MIN, -2, -1, 3, 4, 9, 10, MAX}) {
            Check.due("keep by " + folk, x.keep(0, folk, 0, 1), -1);
        }
        for (int work : new int[] {MIN, -2, -1, 1, 2, 5, 6, MAX}) {
            Check.due("keep of work " + work, x.keep(0, 2, work, 1), -1);
        }
        for (int valley : new int[] {MIN, -2, -1, 1, 2, MAX}) {
            Check.due("keep in valley " + valley, x.keep(valley, 2, 0, 1), -1);
        }
        x = of(Check.times(10, "folk 9 9;") + SIX);
        Check.due("the last of all", x.keep(0, 9, 5, 9), 0);
        Check.due("no eleventh", x.keep(0, 10, 5, 9), -1);
        Check.due("no seventh", x.keep(0, 9, 6, 9), -1);
        Check.due("of an empty valley", of("").keep(0, 0, 0, 1), -1);
    }

    private static void soonJustInTime() {
        Words.term(5, "SOON of a FOLK of AGE below 10, a WORK: in how few years, up to 9, it can KEEP it.");
        for (int strength = 1; strength <= 9; strength++) {
            for (int size = 1; size <= 30; size++) {
                int years = (size + strength - 1) / strength;
                int soon = of(house(strength, 1) + "work " + size + " 1;").soon(0, 2, 0);
                Check.due("soon of " + size + " by " + strength, soon, years <= 9 ? years : -1);
            }
        }
    }

    private static void soonNever() {
        Words.promise(24, "NONE: not in 9 years, or as keep().");
        Check.due("just in 9", of(house(3, 1) + "work 27 1;").soon(0, 2, 0), 9);
        Check.due("not in 9", of(house(3, 1) + "work 28 1;").soon(0, 2, 0), -1);
        Check.due("by nobody", of("folk 5 9;work 1 1;").soon(0, 0, 0), -1);
        PromiseValley x = of(house(9, 1) + "work 9 1;");
        for (int folk : new int[] {MIN, -1, 0, 1, 3, 10, MAX}) {
            Check.due("soon by " + folk, x.soon(0, folk, 0), -1);
        }
        for (int work : new int[] {MIN, -1, 1, 6, MAX}) {
            Check.due("soon of work " + work, x.soon(0, 2, work), -1);
        }
        for (int valley : new int[] {MIN, -1, 1, 2, MAX}) {
            Check.due("soon in valley " + valley, x.soon(valley, 2, 0), -1);
        }
    }

    private static void sayOfNoWorks() {
        Words.promise(11, "how many WORKS (k NONE)");
        for (String valley : new String[] {"", SIX, house(9, 8) + SIX}) {
            PromiseValley x = of(valley);
            Check.due("say of none", x.say(0, 0, 1, -1), 0);
            Check.due("say of none, the first", x.say(0, 0, 1, 0), -1);
        }
    }

    private static void sayOfAllWorks() {
        Words.term(3, "each of these by a FOLK that can KEEP it in n years, no FOLK twice: whether that can be");
        PromiseValley x = of(house(9, 8) + SIX);
        Check.due("say of all", x.say(0, 63, 1, -1), 6);
        for (int k = 0; k < 6; k++) {
            Check.due("the " + k + "-th", x.say(0, 63, 1, k), 2 + k);
        }
        Check.due("just as many", of(house(9, 6) + SIX).say(0, 63, 1, -1), 6);
        x = of(house(9, 5) + SIX);
        Check.due("one too few", x.say(0, 63, 9, -1), -1);
        Check.due("one too few, the first", x.say(0, 63, 9, 0), -1);
        for (int w = 0; w < 6; w++) {
            Check.due("all but " + w, x.say(0, 63 & ~(1 << w), 1, -1), 5);
            Check.due("the last of all but " + w, x.say(0, 63 & ~(1 << w), 1, 4), 6);
        }
    }

    private static void sayOfWorksNotThere() {
        Words.promise(11, "a WORK that is not there");
        for (int many = 0; many <= 6; many++) {
            PromiseValley x = of(house(9, 8) + Check.times(many, "work 9 1;"));
            int all = (1 << many) - 1;
            Check.due("all of " + many, x.say(0, all, 1, -1), many);
            for (int works : new int[] {all + 1, 2 * all + 1, 64, 128, 1 << 30, MIN, MAX, -1, MIN | all, 64 | all}) {
                if (works != all) {
                    Check.due("say of " + works + " with " + many, x.say(0, works, 1, -1), -1);
                    Check.due("the first of " + works + " with " + many, x.say(0, works, 1, 0), -1);
                }
            }
        }
    }

    private static void sayTheKth() {
        Words.promise(11, "or by whom the k-th of them is said. NONE: it can't be, not so many");
        PromiseValley x = of(house(9, 8) + SIX);
        Check.due("the only one", x.say(0, 32, 1, 0), 2);
        Check.due("of 1 and 5 the second", x.say(0, 34, 1, 1), 3);
        for (int k : new int[] {MIN, -3, -2, 2, 3, 5, 6, 32, 34, MAX}) {
            Check.due("of two the " + k + "-th", x.say(0, 34, 1, k), -1);
        }
        Check.due("of six the sixth", x.say(0, 63, 1, 5), 7);
        Check.due("of six the seventh", x.say(0, 63, 1, 6), -1);
    }

    private static void sayInAnotherSpan() {
        Words.promise(11, "another n, or there is none such.");
        PromiseValley x = of(house(1, 1) + "work 9 1;");
        Check.due("in 9", x.say(0, 1, 9, 0), 2);
        Check.due("in 8", x.say(0, 1, 8, 0), -1);
        for (int n : NO_SPAN) {
            Check.due("say in " + n, x.say(0, 1, n, -1), -1);
            Check.due("say of none in " + n, x.say(0, 0, n, -1), -1);
        }
        for (int valley : new int[] {MIN, -1, 1, 2, MAX}) {
            Check.due("say in valley " + valley, x.say(valley, 1, 9, -1), -1);
            Check.due("say of none in valley " + valley, x.say(valley, 0, 9, -1), -1);
        }
    }

    private static void sayThatCannotBe() {
        Words.term(3, "by whom, the first row by WORKS, rising, by numbers.");
        // FOLK 2 has a grandparent of 9, 5 one of 2: what only 2 can keep is left to 2
        String two = house(9, 1) + "folk 70 2;folk 40 0;folk 5 0;child 4 3;child 5 4;";
        PromiseValley x = of(two + "work 2 1;work 3 1;");
        Check.due("two", x.say(0, 3, 1, -1), 2);
        Check.due("the first by 5", x.say(0, 3, 1, 0), 5);
        Check.due("the second by 2", x.say(0, 3, 1, 1), 2);
        Check.due("the first alone by 2", x.say(0, 1, 1, 0), 2);
        Check.due("in two years by the least", x.say(0, 3, 2, 0), 2);
        x = of(two + "work 3 1;work 9 1;");
        Check.due("both by 2 alone", x.say(0, 3, 1, -1), -1);
        Check.due("one", x.say(0, 1, 1, -1), 1);
        Check.due("the other", x.say(0, 2, 1, -1), 1);
        x = of(two + "work 10 1;work 2 1;");
        Check.due("one by nobody", x.say(0, 3, 1, 1), -1);
        Check.due("the other of them", x.say(0, 2, 1, 0), 2);
    }

    private static void dare(PromiseValley x, int n, int much, int first) {
        Check.due("dare(0, " + n + ", false)", x.dare(0, n, false), much);
        Check.due("dare(0, " + n + ", true)", x.dare(0, n, true), first);
    }

    private static void dareOfNoTurns() {
        Words.promise(12, "(first) what is taken first (NONE: n is 0).");
        dare(of(""), 0, 0, -1);
        dare(of(house(9, 8) + SIX), 0, 0, -1);
    }

    private static void dareOfTurns() {
        Words.term(3, "DARE of n, 0 .. 4: two by turns, n times in all");
        PromiseValley x = of(house(9, 8) + "work 1 20;work 1 20;work 1 20;work 1 20;");
        dare(x, 1, 20, 0);
        dare(x, 2, 0, 0);
        dare(x, 3, 20, 0);
        dare(x, 4, 0, 0);
        x = of(house(9, 8) + "work 1 1;work 1 2;work 1 4;work 1 8;work 1 16;work 1 20;");
        dare(x, 1, 20, 5);
        dare(x, 2, 4, 5);
        dare(x, 3, 12, 5);
        dare(x, 4, 8, 5);
        // one child alone: one WORK is taken, whatever comes
        x = of(house(9, 1) + "work 1 5;work 1 7;work 1 7;");
        for (int n = 1; n <= 4; n++) {
            dare(x, n, 7, 1);
        }
    }

    private static void dareOfAnotherNumber() {
        Words.promise(12, "-999: another n, or there is none such.");
        PromiseValley x = of(house(9, 8) + SIX);
        for (int n : new int[] {MIN, -4, -1, 5, 6, MAX}) {
            dare(x, n, -999, -999);
        }
        for (int valley : new int[] {MIN, -1, 1, 2, MAX}) {
            for (int n : new int[] {-1, 0, 1, 5}) {
                Check.due("dare in valley " + valley, x.dare(valley, n, false), -999);
                Check.due("dare in valley " + valley + ", first", x.dare(valley, n, true), -999);
            }
        }
    }

    private static void dareNone() {
        Words.term(3, "(without one it can't be taken), or none");
        for (int n = 1; n <= 4; n++) {
            dare(of(""), n, 0, 6);
            dare(of(SIX), n, 0, 6);
            dare(of(house(9, 8)), n, 0, 6);
            dare(of(house(0, 8) + SIX), n, 0, 6);
        }
    }

    private static void dareTheLeastThatIsBest() {
        Words.term(3, "what the first takes first, the least that is best (6: none).");
        // of WORTH 0 it is as good as none, and less
        dare(of(house(9, 8) + "work 1 0;"), 1, 0, 0);
        dare(of(house(9, 8) + "work 1 0;work 1 0;"), 4, 0, 0);
        dare(of(house(1, 8) + "work 10 9;work 1 0;"), 2, 0, 1);
        dare(of(house(9, 8) + "work 1 3;work 1 7;work 1 7;"), 1, 7, 1);
        dare(of(house(9, 8) + "work 1 0;work 1 1;work 1 1;"), 2, 0, 1);
        // the last of six
        dare(of(house(9, 8) + Check.times(5, "work 1 0;") + "work 1 1;"), 1, 1, 5);
        // the least FOLK goes with it: 2 for work 0, so none is left for work 1
        String two = house(9, 1) + "folk 70 2;folk 40 0;folk 5 0;child 4 3;child 5 4;";
        dare(of(two + "work 18 5;work 30 6;"), 2, 5, 0);
        dare(of(two + "work 18 5;work 30 6;"), 1, 6, 1);
    }

    private static void dareInNineYears() {
        Words.term(3, "the least FOLK nobody has that can KEEP it in 9 years");
        dare(of(house(3, 1) + "work 27 4;"), 1, 4, 0);
        dare(of(house(3, 1) + "work 28 4;"), 1, 0, 6);
    }

    private static void plan(String valley, int n, int much, int which, int fewest) {
        PromiseValley x = of(valley);
        Check.due("plan(0, " + n + ", 0) of " + valley, x.plan(0, n, 0), much);
        Check.due("plan(0, " + n + ", 1) of " + valley, x.plan(0, n, 1), which);
        Check.due("plan(0, " + n + ", 2) of " + valley, x.plan(0, n, 2), fewest);
    }

    private static void planJustSize() {
        Words.term(3, "at one WORK for all these years, or at none, as much together as SIZE or more");
        for (int strength = 1; strength <= 9; strength++) {
            for (int n = 1; n <= 9; n++) {
                int does = strength * n;
                if (does < 30) {
                    plan("folk 50 " + strength + ";work " + (does + 1) + " 5;", n, 0, 0, 0);
                }
                if (does <= 30) {
                    plan("folk 50 " + strength + ";work " + does + " 5;", n, 5, 1, 1);
                }
            }
        }
        // what is left over of one's years is no other WORK's: 5 a year for 3 years, 7 and 8
        plan("folk 50 5;work 7 1;work 8 1;", 3, 1, 1, 1);
        plan("folk 50 5;folk 50 5;work 15 1;work 15 1;", 3, 2, 3, 2);
        plan("folk 50 5;folk 50 5;work 15 1;work 16 1;", 3, 1, 1, 1);
        // by n at once: 3 a year and 2 a year are 15 in 3 years, though not 14 and 1
        plan("folk 50 3;folk 50 2;work 15 1;", 3, 1, 1, 2);
        plan("folk 50 3;folk 50 2;work 16 1;", 3, 0, 0, 0);
        // 9 are enough for one of 6, 3 together not for the other, though 12 are for both
        plan("folk 50 9;folk 50 1;folk 50 1;folk 50 1;work 6 5;work 6 5;", 1, 5, 1, 1);
        plan("folk 50 9;folk 50 2;folk 50 2;folk 50 2;work 6 5;work 6 5;", 1, 10, 3, 4);
        // those without STRENGTH dig nothing
        plan("folk 50 2;folk 50 0;folk 50 0;work 1 5;work 1 5;", 1, 5, 1, 1);
        // of any AGE
        plan("folk 0 9;folk 99 9;work 18 1;", 1, 1, 1, 2);
    }

    private static void planOfNothing() {
        Words.promise(13, "what 0: how much, 1: which (bits), 2: the fewest FOLK.");
        for (int n = 1; n <= 9; n += 4) {
            plan("", n, 0, 0, 0);
            plan(Check.times(10, "folk 50 9;"), n, 0, 0, 0);
            plan(Check.times(6, "work 1 20;"), n, 0, 0, 0);
            plan(Check.times(10, "folk 50 0;") + Check.times(6, "work 1 20;"), n, 0, 0, 0);
            plan(Check.times(10, "folk 50 9;") + Check.times(6, "work 1 0;"), n, 0, 0, 0);
        }
        plan(Check.times(10, "folk 50 9;") + Check.times(6, "work 1 20;"), 1, 120, 63, 6);
    }

    private static void planTheLeast() {
        Words.term(3, "WORKS that are WORTH most together so: how much; which (bits), of several the least");
        plan("folk 50 9;work 9 5;work 9 5;", 1, 5, 1, 1);
        plan("folk 50 9;work 9 0;work 9 5;work 9 5;", 1, 5, 2, 1);
        plan("folk 50 9;folk 50 9;work 9 0;work 9 5;", 1, 5, 2, 1);
        // 0 and 1 (bits 3) by two, or 2 (bits 4) by two: as much, and less
        plan("folk 50 9;folk 50 9;work 9 2;work 9 3;work 18 5;", 1, 5, 3, 2);
        plan("folk 50 9;folk 50 9;work 18 5;work 9 2;work 9 3;", 1, 5, 1, 2);
        plan("folk 50 9;folk 50 9;work 18 6;work 9 2;work 9 3;", 1, 6, 1, 2);
    }

    private static void planTheFewest() {
        Words.term(3, "the fewest FOLK by which just these are done.");
        plan(Check.times(10, "folk 50 3;") + "work 30 1;", 1, 1, 1, 10);
        plan(Check.times(9, "folk 50 3;") + "work 30 1;", 1, 0, 0, 0);
        plan(Check.times(10, "folk 50 3;") + "work 30 1;", 9, 1, 1, 2);
        plan("folk 50 1;folk 50 0;folk 50 9;work 9 1;", 1, 1, 1, 1);
        plan("folk 50 5;folk 50 5;folk 50 9;folk 50 1;work 10 1;", 1, 1, 1, 2);
        plan("folk 50 4;folk 50 4;folk 50 6;folk 50 6;work 10 1;work 10 1;", 1, 2, 3, 4);
        plan("folk 50 4;folk 50 4;folk 50 6;folk 50 6;folk 50 9;work 10 1;work 10 1;", 1, 2, 3, 4);
        plan("folk 50 1;folk 50 1;folk 50 9;folk 50 9;folk 50 9;work 10 1;work 10 1;", 1, 2, 3, 4);
        plan("folk 50 1;folk 50 9;folk 50 9;folk 50 9;work 10 1;work 10 1;", 1, 2, 3, 4);
    }

    private static void planOfAnotherNumber() {
        Words.promise(13, "NONE: another n, there is none such, or for another what.");
        PromiseValley x = of(house(9, 8) + SIX);
        for (int n : NO_SPAN) {
            for (int what = 0; what < 3; what++) {
                Check.due("plan(0, " + n + ", " + what + ")", x.plan(0, n, what), -1);
            }
        }
        for (int what : new int[] {MIN, -2, -1, 3, 4, MAX}) {
            Check.due("plan(0, 1, " + what + ")", x.plan(0, 1, what), -1);
        }
        for (int valley : new int[] {MIN, -1, 1, 2, MAX}) {
            Check.due("plan(" + valley + ", 1, 0)", x.plan(valley, 1, 0), -1);
        }
    }

    private static void oddsByAge() {
        Words.term(3, "lives all these years by as many of ten as 10 less AGE by 10 (cut)");
        for (int age = 0; age <= 99; age++) {
            PromiseValley x = of("folk " + age + " 9;folk 40 0;folk 5 0;child 1 0;child 2 1;work 9 1;");
            long ten = 10 - age / 10;
            fraction("odds by one of " + age, x.odds(0, 2, 0, 1, false), x.odds(0, 2, 0, 1, true), ten / gcd(ten, 10), 10 / gcd(ten, 10));
        }
        // 0 of 90 and 1 of 99, by themselves: both needed, one needed, the stronger needed
        String two = "folk 90 2;folk 99 1;folk 40 0;folk 5 0;child 2 0;child 2 1;child 3 2;work 3 1;work 1 1;work 2 1;";
        PromiseValley x = of(two);
        fraction("both", x.odds(0, 3, 0, 1, false), x.odds(0, 3, 0, 1, true), 1, 100);
        fraction("either", x.odds(0, 3, 1, 1, false), x.odds(0, 3, 1, 1, true), 19, 100);
        fraction("the stronger", x.odds(0, 3, 2, 1, false), x.odds(0, 3, 2, 1, true), 1, 10);
    }

    private static void oddsOfTheSure() {
        Words.promise(14, "ODDS, N, or (under) D.");
        PromiseValley x = of("folk 9 9;folk 40 0;folk 5 0;child 1 0;child 2 1;work 9 1;work 10 1;");
        fraction("sure", x.odds(0, 2, 0, 1, false), x.odds(0, 2, 0, 1, true), 1, 1);
        fraction("never", x.odds(0, 2, 1, 1, false), x.odds(0, 2, 1, 1, true), 0, 1);
        x = of("folk 5 9;work 1 1;");
        fraction("by nobody", x.odds(0, 0, 0, 9, false), x.odds(0, 0, 0, 9, true), 0, 1);
        // four of 50, each by 5 of ten: of 16 alike all, or any, can do it
        x = of(four(1, 1, 1, 1) + "work 4 1;work 1 1;work 5 1;work 3 1;");
        fraction("all four", x.odds(0, 6, 0, 1, false), x.odds(0, 6, 0, 1, true), 1, 16);
        fraction("any of four", x.odds(0, 6, 1, 1, false), x.odds(0, 6, 1, 1, true), 15, 16);
        fraction("not even four", x.odds(0, 6, 2, 1, false), x.odds(0, 6, 2, 1, true), 0, 1);
        fraction("three of four", x.odds(0, 6, 3, 1, false), x.odds(0, 6, 3, 1, true), 5, 16);
    }

    private static void oddsOfNoneSuch() {
        Words.promise(14, "NONE as keep().");
        PromiseValley x = of(house(9, 1) + "work 9 1;");
        for (boolean under : new boolean[] {false, true}) {
            for (int n : NO_SPAN) {
                Check.due("odds in " + n, x.odds(0, 2, 0, n, under), -1);
                Check.due("power in " + n, x.power(0, 2, 0, n, 0, under), -1);
            }
            for (int folk : new int[] {MIN, -1, 0, 1, 3, 10, MAX}) {
                Check.due("odds of " + folk, x.odds(0, folk, 0, 1, under), -1);
                Check.due("power for " + folk, x.power(0, folk, 0, 1, 0, under), -1);
            }
            for (int work : new int[] {MIN, -1, 1, 6, MAX}) {
                Check.due("odds of work " + work, x.odds(0, 2, work, 1, under), -1);
                Check.due("power for work " + work, x.power(0, 2, work, 1, 0, under), -1);
            }
            for (int valley : new int[] {MIN, -1, 1, 2, MAX}) {
                Check.due("odds in valley " + valley, x.odds(valley, 2, 0, 1, under), -1);
                Check.due("power in valley " + valley, x.power(valley, 2, 0, 1, 0, under), -1);
            }
        }
    }

    private static void power(PromiseValley x, int folk, int work, int n, int elder, long over, long under) {
        String call = "power of " + elder + " for work " + work + " in " + n;
        fraction(call, x.power(0, folk, work, n, elder, false), x.power(0, folk, work, n, elder, true), over, under);
    }

    private static void powerOfOneAndTwo() {
        Words.term(3, "how likely it is that he is the one with whom those so far can first do it in n years");
        PromiseValley x = of(house(9, 1) + "work 9 1;work 10 1;");
        power(x, 2, 0, 1, 0, 1, 1);
        power(x, 2, 1, 1, 0, 0, 1);
        power(x, 2, 1, 2, 0, 1, 1);
        String two = "folk 70 5;folk 70 4;folk 40 0;folk 5 0;child 2 0;child 2 1;child 3 2;";
        x = of(two + "work 4 1;work 5 1;work 6 1;work 9 1;work 10 1;");
        int[][] over = {{1, 1}, {1, 0}, {1, 1}, {1, 1}, {0, 0}};
        int[][] under = {{2, 2}, {1, 1}, {2, 2}, {2, 2}, {1, 1}};
        for (int w = 0; w < 5; w++) {
            for (int elder = 0; elder < 2; elder++) {
                power(x, 3, w, 1, elder, over[w][elder], under[w][elder]);
            }
        }
        // without STRENGTH nobody turns it
        x = of("folk 70 0;folk 70 4;folk 40 0;folk 5 0;child 2 0;child 2 1;child 3 2;work 4 1;");
        power(x, 3, 0, 1, 0, 0, 1);
        power(x, 3, 0, 1, 1, 1, 1);
    }

    private static void powerOfFour() {
        Words.promise(15, "POWER of a FOLK (elder), N, or (under) D.");
        PromiseValley x = of(four(3, 1, 1, 1) + "work 6 1;work 1 1;work 4 1;work 7 1;work 3 1;");
        for (int elder = 0; elder < 4; elder++) {
            power(x, 6, 0, 1, elder, 1, 4);
            power(x, 6, 1, 1, elder, 1, 4);
            power(x, 6, 3, 1, elder, 0, 1);
            // 4 of 3, 1, 1, 1: he of 3 unless he is the first; each other, if just he of 3 is ahead
            power(x, 6, 2, 1, elder, elder == 0 ? 3 : 1, elder == 0 ? 4 : 12);
            // 3 of 3, 1, 1, 1: he of 3, unless he is the last; each other as the last but him
            power(x, 6, 4, 1, elder, elder == 0 ? 3 : 1, elder == 0 ? 4 : 12);
        }
    }

    private static void powerOfNoGrandparent() {
        Words.promise(15, "NONE as keep(), or it is none of the GRANDPARENTS.");
        PromiseValley x = of(house(9, 2) + "folk 70 9;work 9 1;");
        Check.due("of the grandparent", x.power(0, 2, 0, 1, 0, false), 1);
        for (int elder : new int[] {MIN, -2, -1, 1, 2, 3, 4, 5, 9, 10, 32, MAX}) {
            power(x, 2, 0, 1, elder, -1, -1);
        }
        power(of("folk 5 9;work 1 1;"), 0, 0, 1, 0, -1, -1);
    }

    private static void neverInYears() {
        Words.term(5, "NEVER of n years: WORKS (bits) that no FOLK of AGE below 10 can KEEP in n years.");
        PromiseValley x = of(house(3, 2) + "work 3 1;work 4 1;work 26 1;work 27 1;work 28 1;work 30 1;");
        Check.due("never in 1", x.most(0, 1, 0), 62);
        Check.due("never in 2", x.most(0, 2, 0), 60);
        Check.due("never in 8", x.most(0, 8, 0), 60);
        Check.due("never in 9", x.most(0, 9, 0), 48);
        Check.due("never by nobody", of(SIX).most(0, 9, 0), 63);
        Check.due("never of no works", of(house(9, 8)).most(0, 9, 0), 0);
        Check.due("never of nothing", of("").most(0, 1, 0), 0);
    }

    private static void mostByAnother() {
        Words.term(5, "MOST of n years: the most WORKS each of which can be KEPT by another FOLK of AGE below 10; "
            + "the most WORTH of any such WORKS.");
        for (int children = 0; children <= 8; children++) {
            PromiseValley x = of(house(9, children) + "work 9 1;work 9 2;work 9 4;work 9 8;work 9 16;work 10 20;");
            int[] worth = {0, 16, 24, 28, 30, 31, 31, 31, 31};
            Check.due("most by " + children, x.most(0, 1, 1), Math.min(children, 5));
            Check.due("most worth by " + children, x.most(0, 1, 2), worth[children]);
        }
        Check.due("most of nothing", of("").most(0, 9, 1), 0);
        Check.due("most worth of nothing", of("").most(0, 9, 2), 0);
        PromiseValley x = of(house(9, 2) + "work 9 0;work 9 0;");
        Check.due("most of no worth", x.most(0, 1, 1), 2);
        Check.due("no worth", x.most(0, 1, 2), 0);
    }

    private static void mostOfAnotherNumber() {
        Words.promise(25, "NONE: another n, there is none such, or for another what.");
        PromiseValley x = of(house(9, 8) + SIX);
        for (int what = 0; what < 3; what++) {
            for (int n : NO_SPAN) {
                Check.due("most(0, " + n + ", " + what + ")", x.most(0, n, what), -1);
            }
            for (int valley : new int[] {MIN, -1, 1, 2, MAX}) {
                Check.due("most(" + valley + ", 1, " + what + ")", x.most(valley, 1, what), -1);
            }
        }
        for (int what : new int[] {MIN, -2, -1, 3, 4, MAX}) {
            Check.due("most(0, 1, " + what + ")", x.most(0, 1, what), -1);
        }
    }

    private static void lot(PromiseValley x, int s, int much, int which) {
        Check.due("lot(0, " + s + ", false)", x.lot(0, s, false), much);
        Check.due("lot(0, " + s + ", true)", x.lot(0, s, true), which);
    }

    private static void lotJustFull() {
        Words.term(5, "LOT of s, 0 .. 99: WORKS of SIZES no more than s together, of WORTH most together");
        PromiseValley x = of(Check.times(6, "work 30 7;"));
        for (int s = 0; s <= 99; s++) {
            lot(x, s, 7 * (s / 30), (1 << (s / 30)) - 1);
        }
        x = of("work 1 5;work 30 6;work 30 6;work 30 6;work 9 1;");
        lot(x, 0, 0, 0);
        lot(x, 1, 5, 1);
        lot(x, 29, 6, 17);
        lot(x, 30, 6, 2);
        lot(x, 31, 11, 3);
        lot(x, 90, 18, 14);
        lot(x, 91, 23, 15);
        lot(x, 98, 23, 15);
        lot(x, 99, 23, 15);
        lot(of("work 30 6;work 30 6;work 30 6;work 9 1;"), 99, 19, 15);
        lot(of("work 30 6;work 30 6;work 30 6;work 10 1;"), 99, 18, 7);
    }

    private static void lotTheLeast() {
        Words.term(5, "how much; which (bits), of several the least.");
        lot(of(""), 99, 0, 0);
        lot(of("folk 1 1;"), 0, 0, 0);
        lot(of("work 1 0;work 1 0;"), 99, 0, 0);
        lot(of("work 1 0;work 1 5;work 1 5;"), 1, 5, 2);
        lot(of("work 1 0;work 1 5;"), 99, 5, 2);
        // 0 and 1 (bits 3) are as much as 2 (bits 4)
        lot(of("work 1 2;work 1 3;work 2 5;"), 2, 5, 3);
        lot(of("work 2 5;work 1 2;work 1 3;"), 2, 5, 1);
    }

    private static void lotOfAnotherNumber() {
        Words.promise(26, "NONE: another s, or there is none such.");
        PromiseValley x = of(SIX);
        for (int s : new int[] {MIN, -2, -1, 100, 101, MAX}) {
            lot(x, s, -1, -1);
        }
        for (int valley : new int[] {MIN, -1, 1, 2, MAX}) {
            Check.due("lot(" + valley + ", 9, false)", x.lot(valley, 9, false), -1);
            Check.due("lot(" + valley + ", 9, true)", x.lot(valley, 9, true), -1);
        }
    }

    private static void allInYears() {
        Words.term(5, "ALL: in how few years, 0 .. 99, all FOLK together have STRENGTH enough for SIZES of all WORKS together.");
        String ninety = "work 30 1;work 30 1;work 30 1;";
        Check.due("nothing at all", of("").heaps(0, false), 0);
        Check.due("no works", of("folk 1 9;").heaps(0, false), 0);
        Check.due("no strength, no works", of("folk 1 0;").heaps(0, false), 0);
        Check.due("one year", of("folk 1 1;work 1 1;").heaps(0, false), 1);
        Check.due("just one year", of("folk 1 9;folk 99 9;work 18 1;").heaps(0, false), 1);
        Check.due("one more", of("folk 1 9;folk 99 9;work 19 1;").heaps(0, false), 2);
        Check.due("98 years", of("folk 1 1;" + ninety + "work 8 1;").heaps(0, false), 98);
        Check.due("99 years", of("folk 1 1;" + ninety + "work 9 1;").heaps(0, false), 99);
        Check.due("all at its most", of(Check.times(10, "folk 1 9;") + Check.times(6, "work 30 1;")).heaps(0, false), 2);
        Words.promise(27, "ALL (NONE: not in 99 years)");
        Check.due("100 years", of("folk 1 1;" + ninety + "work 10 1;").heaps(0, false), -1);
        Check.due("no strength", of("folk 1 0;work 1 1;").heaps(0, false), -1);
        Check.due("no folk", of("work 1 1;").heaps(0, false), -1);
    }

    private static void halves() {
        Words.term(5, "HALVES: WORKS laid in two heaps so that SIZES of these differ least: by how much.");
        Check.due("nothing", of("").heaps(0, true), 0);
        Check.due("one", of("work 30 1;").heaps(0, true), 30);
        Check.due("one of one", of("work 1 1;").heaps(0, true), 1);
        Check.due("two alike", of("work 30 1;work 30 1;").heaps(0, true), 0);
        Check.due("two unlike", of("work 30 1;work 1 1;").heaps(0, true), 29);
        Check.due("six alike", of(Check.times(6, "work 30 1;")).heaps(0, true), 0);
        Check.due("five alike", of(Check.times(5, "work 30 1;")).heaps(0, true), 30);
        Check.due("one against five", of("work 5 1;work 30 1;work 6 1;work 6 1;work 6 1;work 7 1;").heaps(0, true), 0);
        Check.due("no largest first", of("work 8 1;work 7 1;work 6 1;work 5 1;work 4 1;").heaps(0, true), 0);
    }

    private static void heapsOfNoneSuch() {
        Words.promise(27, "-2: there is none such.");
        PromiseValley x = of(SIX);
        for (int valley : new int[] {MIN, -2, -1, 1, 2, MAX}) {
            Check.due("heaps(" + valley + ", false)", x.heaps(valley, false), -2);
            Check.due("heaps(" + valley + ", true)", x.heaps(valley, true), -2);
        }
    }

    private static void lossJustSize() {
        Words.term(5, "how many couples of a FOLK of AGE below 10 and a WORK that it can KEEP in n years there are more with it "
            + "than without its STRENGTH.");
        // grandparents of 5 and 4: 4 and 5 are kept by one, 6 to 9 by both alone, 10 by none
        String two = "folk 70 5;folk 70 4;folk 40 0;folk 5 0;child 2 0;child 2 1;child 3 2;";
        int[][] want = {{4, 0, 0}, {5, 1, 0}, {6, 1, 1}, {9, 1, 1}, {10, 0, 0}};
        for (int[] row : want) {
            PromiseValley x = of(two + "work " + row[0] + " 1;");
            Check.due("loss of 0 for " + row[0], x.loss(0, 0, 1), row[1]);
            Check.due("loss of 1 for " + row[0], x.loss(0, 1, 1), row[2]);
        }
        PromiseValley x = of(two + "work 30 1;");
        int[] ofFive = {0, 0, 0, 1, 1, 1, 1, 0, 0};
        int[] ofFour = {0, 0, 0, 1, 1, 0, 0, 0, 0};
        for (int n = 1; n <= 9; n++) {
            Check.due("loss of 0 in " + n, x.loss(0, 0, n), ofFive[n - 1]);
            Check.due("loss of 1 in " + n, x.loss(0, 1, n), ofFour[n - 1]);
        }
        Check.due("all couples", of(house(9, 8) + SIX).loss(0, 0, 1), 48);
    }

    private static void lossOfNone() {
        Words.term(5, "there are more with it than without its STRENGTH.");
        PromiseValley x = of(house(9, 2) + "folk 70 9;work 9 1;");
        Check.due("of the grandparent", x.loss(0, 0, 1), 2);
        for (int folk = 1; folk <= 4; folk++) {
            Check.due("of " + folk, x.loss(0, folk, 9), 0);
        }
        Check.due("of one without strength", of("folk 70 0;folk 70 9;folk 40 0;folk 5 0;child 2 0;child 2 1;child 3 2;work 9 1;")
            .loss(0, 0, 1), 0);
        Check.due("without works", of(house(9, 8)).loss(0, 0, 9), 0);
        // one of the grandparents on both sides is lost once, and wholly
        Check.due("on both sides", of("folk 70 3;folk 40 9;folk 40 9;folk 5 9;child 1 0;child 2 0;child 3 1;child 3 2;work 3 1;work 4 1;")
            .loss(0, 0, 1), 1);
    }

    private static void lossOfNoneSuch() {
        Words.promise(28, "NONE: another n, or there is none such (of either).");
        PromiseValley x = of(house(9, 1) + "work 9 1;");
        for (int n : NO_SPAN) {
            Check.due("loss in " + n, x.loss(0, 0, n), -1);
        }
        for (int folk : new int[] {MIN, -2, -1, 3, 4, 10, MAX}) {
            Check.due("loss of " + folk, x.loss(0, folk, 1), -1);
        }
        for (int valley : new int[] {MIN, -1, 1, 2, MAX}) {
            Check.due("loss in valley " + valley, x.loss(valley, 0, 1), -1);
        }
    }
}
