/** Edges of terms 3 and 5 and of promises 16, 17, 21 to 23 and 29: how near of kin, lines, houses, weddings. */
final class EdgesOfKin {
    private static final int MIN = Integer.MIN_VALUE;
    private static final int MAX = Integer.MAX_VALUE;
    private static final int[] NO_VALLEY = {MIN, -2, -1, 1, 2, MAX};

    private EdgesOfKin() {
    }

    static void run() {
        kinshipOfOneAndItself();
        kinshipOfNone();
        kinshipStepByStep();
        kinshipOfNoneSuch();
        weddingByAge();
        weddingByKinship();
        weddingOfNoneSuch();
        lineOfNobody();
        lineOfOne();
        lineOfTen();
        lineTheFirstByNumbers();
        lineOfNoneSuch();
        eldersOfNobody();
        eldersOfAll();
        eldersOfNoneSuch();
        apartNoStep();
        apartNine();
        apartNever();
        housesOfNobody();
        housesOfTen();
        roots();
        orphansByAge();
        cousins();
        burden();
        watch();
        housesOfAnotherWhat();
    }

    private static PromiseValley of(String valley) {
        return EdgesOfAsked.of(valley);
    }

    /** Ten of that AGE, each the one PARENT of the next. */
    private static String row(int age) {
        StringBuilder text = new StringBuilder(Check.times(10, "folk " + age + " 1;"));
        for (int f = 1; f < 10; f++) {
            text.append("child ").append(f).append(' ').append(f - 1).append(';');
        }
        return text.toString();
    }

    /** That many of AGE 20, and who is whose child: FOLK and PARENT by turns. */
    private static String kin(int folk, int... children) {
        StringBuilder text = new StringBuilder(Check.times(folk, "folk 20 1;"));
        for (int i = 0; i + 1 < children.length; i += 2) {
            text.append("child ").append(children[i]).append(' ').append(children[i + 1]).append(';');
        }
        return text.toString();
    }

    private static void near(PromiseValley x, int a, int b, long over, long under) {
        Check.due("kinship(0, " + a + ", " + b + ")", x.kinship(0, a, b, false), over);
        Check.due("kinship(0, " + a + ", " + b + ") (under)", x.kinship(0, a, b, true), under);
        Check.due("kinship(0, " + b + ", " + a + ")", x.kinship(0, b, a, false), over);
        Check.due("kinship(0, " + b + ", " + a + ") (under)", x.kinship(0, b, a, true), under);
    }

    private static void kinshipOfOneAndItself() {
        Words.term(3, "of one and itself 1 by 2, and half of that of its PARENTS, if it has two");
        near(of(kin(1)), 0, 0, 1, 2);
        near(of(kin(2, 1, 0)), 1, 1, 1, 2);
        near(of(kin(3, 2, 0, 2, 1)), 2, 2, 1, 2);
        // parents that are parent and child; that are of the same two
        near(of(kin(3, 1, 0, 2, 0, 2, 1)), 2, 2, 5, 8);
        near(of(kin(5, 2, 0, 2, 1, 3, 0, 3, 1, 4, 2, 4, 3)), 4, 4, 5, 8);
        // one parent that is of kin with nobody but itself
        near(of(kin(4, 1, 0, 2, 0, 2, 1, 3, 2)), 3, 3, 1, 2);
    }

    private static void kinshipOfNone() {
        Words.term(3, "of two half of that of the one of greater number's PARENTS with the other one, together (none: 0)");
        near(of(kin(2)), 0, 1, 0, 1);
        near(of(kin(3, 2, 0)), 2, 1, 0, 1);
        near(of(kin(3, 2, 0, 2, 1)), 0, 1, 0, 1);
        near(of(kin(3, 1, 0)), 1, 2, 0, 1);
        near(of(kin(3, 2, 1)), 2, 0, 0, 1);
        near(of(kin(10)), 0, 9, 0, 1);
    }

    private static void kinshipStepByStep() {
        Words.term(3, "of two half of that of the one of greater number's PARENTS with the other one, together");
        PromiseValley x = of(row(20));
        for (int f = 1; f < 10; f++) {
            near(x, 0, f, 1, 1L << (f + 1));
            near(x, f - 1, f, 1, 4);
        }
        x = of(kin(4, 2, 0, 2, 1, 3, 0, 3, 1));
        near(x, 2, 3, 1, 4);
        near(x, 2, 0, 1, 4);
        x = of(kin(3, 1, 0, 2, 0));
        near(x, 1, 2, 1, 8);
        // child of 0 and of its child: 3 by 8 with either
        x = of(kin(3, 1, 0, 2, 0, 2, 1));
        near(x, 2, 0, 3, 8);
        near(x, 2, 1, 3, 8);
    }

    private static void kinshipOfNoneSuch() {
        Words.promise(16, "NONE: there is none such (of any).");
        PromiseValley x = of(kin(2, 1, 0));
        for (int folk : new int[] {MIN, -2, -1, 2, 3, 9, 10, MAX}) {
            near(x, 0, folk, -1, -1);
            near(x, folk, folk, -1, -1);
        }
        for (int valley : NO_VALLEY) {
            Check.due("kinship(" + valley + ", 0, 0)", x.kinship(valley, 0, 0, false), -1);
            Check.due("kinship(" + valley + ", 0, 0) (under)", x.kinship(valley, 0, 0, true), -1);
        }
        near(of(""), 0, 0, -1, -1);
        near(of(kin(10)), 9, 9, 1, 2);
        near(of(kin(10)), 9, 10, -1, -1);
    }

    private static void weddingByAge() {
        Words.term(5, "whether both are of AGE 16 or more");
        int[] ages = {0, 15, 16, 17, 99};
        for (int one : ages) {
            for (int two : ages) {
                PromiseValley x = of("folk " + one + " 1;folk " + two + " 1;");
                Check.due("wedding of " + one + " and " + two, x.wedding(0, 0, 1), one >= 16 && two >= 16 ? 1 : 0);
            }
        }
    }

    private static void weddingByKinship() {
        Words.term(5, "and KINSHIP of them is below 1 by 8 (1, else 0)");
        PromiseValley x = of(row(20));
        for (int f = 1; f < 10; f++) {
            Check.due("wedding(0, 0, " + f + ")", x.wedding(0, 0, f), f >= 3 ? 1 : 0);
            Check.due("wedding(0, " + f + ", 0)", x.wedding(0, f, 0), f >= 3 ? 1 : 0);
        }
        Check.due("of one parent: 1 by 8", of(kin(3, 1, 0, 2, 0)).wedding(0, 1, 2), 0);
        Check.due("of two parents: 1 by 4", of(kin(4, 2, 0, 2, 1, 3, 0, 3, 1)).wedding(0, 2, 3), 0);
        Check.due("cousins: 1 by 16", of(kin(6, 2, 0, 2, 1, 3, 0, 3, 1, 4, 2, 5, 3)).wedding(0, 4, 5), 1);
        Check.due("uncle of half blood: 1 by 16", of(kin(4, 1, 0, 2, 0, 3, 2)).wedding(0, 1, 3), 1);
        Check.due("uncle of whole blood: 1 by 8", of(kin(5, 2, 0, 2, 1, 3, 0, 3, 1, 4, 3)).wedding(0, 2, 4), 0);
        Check.due("of no kin", of(kin(2)).wedding(0, 0, 1), 1);
        // just below 1 by 8, and just above
        x = of(kin(10, 1, 0, 2, 1, 3, 2, 4, 0, 4, 3, 5, 1, 5, 3, 6, 0, 6, 4, 7, 0, 7, 5, 8, 5, 8, 7, 9, 8));
        near(x, 6, 9, 125, 1024);
        Check.due("125 by 1024", x.wedding(0, 6, 9), 1);
        x = of(kin(10, 1, 0, 2, 0, 3, 1, 4, 2, 6, 2, 6, 3, 7, 3, 7, 6, 8, 7, 9, 4, 9, 6));
        near(x, 8, 9, 63, 512);
        Check.due("63 by 512", x.wedding(0, 9, 8), 1);
        x = of(kin(9, 1, 0, 2, 0, 2, 1, 3, 0, 3, 2, 4, 0, 4, 3, 5, 1, 6, 4, 7, 5, 8, 2, 8, 7));
        near(x, 6, 8, 65, 512);
        Check.due("65 by 512", x.wedding(0, 6, 8), 0);
    }

    private static void weddingOfNoneSuch() {
        Words.promise(29, "NONE: it is one FOLK, or there is none such (of any).");
        PromiseValley x = of(kin(2));
        Check.due("wedding(0, 0, 1)", x.wedding(0, 0, 1), 1);
        for (int folk = -2; folk <= 11; folk++) {
            Check.due("wedding(0, " + folk + ", " + folk + ")", x.wedding(0, folk, folk), -1);
        }
        for (int folk : new int[] {MIN, -2, -1, 2, 3, 10, MAX}) {
            Check.due("wedding(0, 0, " + folk + ")", x.wedding(0, 0, folk), -1);
            Check.due("wedding(0, " + folk + ", 0)", x.wedding(0, folk, 0), -1);
        }
        for (int valley : NO_VALLEY) {
            Check.due("wedding(" + valley + ", 0, 1)", x.wedding(valley, 0, 1), -1);
        }
    }

    private static void line(String valley, int... want) {
        PromiseValley x = of(valley);
        Check.due("line(0, -1) of " + valley, x.line(0, -1), want.length);
        for (int k = 0; k < want.length; k++) {
            Check.due("line(0, " + k + ") of " + valley, x.line(0, k), want[k]);
        }
        for (int k : new int[] {want.length, want.length + 1, 10, 11, -2, -3, MIN, MAX}) {
            Check.due("line(0, " + k + ") of " + valley, x.line(0, k), -1);
        }
    }

    private static void lineOfNobody() {
        Words.promise(17, "LINE: how many (k NONE), or the k-th. NONE: not so many");
        line("");
        line("work 1 1;");
    }

    private static void lineOfOne() {
        Words.term(3, "LINE: the longest row of FOLK each of which is a PARENT of the next one: how many");
        line(kin(1), 0);
        line(kin(10), 0);
        line(kin(2, 1, 0), 0, 1);
        line(kin(3, 2, 1), 1, 2);
        line(kin(10, 9, 8), 8, 9);
    }

    private static void lineOfTen() {
        Words.term(3, "the longest row of FOLK each of which is a PARENT of the next one");
        line(row(5), 0, 1, 2, 3, 4, 5, 6, 7, 8, 9);
        line(row(5).replace("child 1 0;", ""), 1, 2, 3, 4, 5, 6, 7, 8, 9);
        line(row(5).replace("child 9 8;", ""), 0, 1, 2, 3, 4, 5, 6, 7, 8);
        line(row(5).replace("child 5 4;", ""), 0, 1, 2, 3, 4);
    }

    private static void lineTheFirstByNumbers() {
        Words.term(3, "the first row by numbers: the k-th.");
        line(kin(4, 2, 0, 3, 1), 0, 2);
        line(kin(4, 3, 0, 2, 1), 0, 3);
        line(kin(4, 1, 0, 2, 0, 3, 1, 3, 2), 0, 1, 3);
        line(kin(5, 1, 0, 2, 0, 4, 1, 3, 2), 0, 1, 4);
        line(kin(5, 1, 0, 2, 0, 3, 2, 4, 2), 0, 2, 3);
        line(kin(6, 2, 0, 3, 1, 4, 2, 5, 3), 0, 2, 4);
        line(kin(6, 4, 1, 5, 4, 3, 0), 1, 4, 5);
        line(kin(3, 2, 0, 2, 1), 0, 2);
    }

    private static void lineOfNoneSuch() {
        Words.promise(17, "or there is none such.");
        PromiseValley x = of(row(5));
        for (int valley : NO_VALLEY) {
            for (int k : new int[] {-2, -1, 0, 9, 10}) {
                Check.due("line(" + valley + ", " + k + ")", x.line(valley, k), -1);
            }
        }
    }

    private static void eldersOfNobody() {
        Words.term(5, "all from whom it comes, all that come from it, by PARENTS, one behind the other (bits; without itself).");
        PromiseValley x = of(kin(10));
        for (int f = 0; f < 10; f++) {
            Check.due("elders(0, " + f + ", false)", x.elders(0, f, false), 0);
            Check.due("elders(0, " + f + ", true)", x.elders(0, f, true), 0);
        }
    }

    private static void eldersOfAll() {
        Words.term(5, "ELDERS, YOUNG of a FOLK: all from whom it comes, all that come from it");
        PromiseValley x = of(row(5));
        for (int f = 0; f < 10; f++) {
            Check.due("elders(0, " + f + ", false)", x.elders(0, f, false), (1 << f) - 1);
            Check.due("elders(0, " + f + ", true)", x.elders(0, f, true), 1023 & ~((2 << f) - 1));
        }
        // those of a parent's other child are neither
        x = of(kin(6, 1, 0, 2, 0, 3, 1, 4, 2, 5, 4));
        Check.due("elders(0, 5, false)", x.elders(0, 5, false), 21);
        Check.due("elders(0, 2, true)", x.elders(0, 2, true), 48);
    }

    private static void eldersOfNoneSuch() {
        Words.promise(21, "NONE: there is none such (of either).");
        PromiseValley x = of(kin(2, 1, 0));
        for (boolean young : new boolean[] {false, true}) {
            for (int folk : new int[] {MIN, -2, -1, 2, 3, 10, 32, MAX}) {
                Check.due("elders(0, " + folk + ", " + young + ")", x.elders(0, folk, young), -1);
            }
            for (int valley : NO_VALLEY) {
                Check.due("elders(" + valley + ", 0, " + young + ")", x.elders(valley, 0, young), -1);
            }
            Check.due("elders of nothing", of("").elders(0, 0, young), -1);
        }
    }

    private static void apart(PromiseValley x, int a, int b, int want) {
        Check.due("apart(0, " + a + ", " + b + ")", x.apart(0, a, b), want);
        Check.due("apart(0, " + b + ", " + a + ")", x.apart(0, b, a), want);
    }

    private static void apartNoStep() {
        Words.term(5, "APART of two FOLK: the fewest steps from one to the other, each to a PARENT or from one.");
        PromiseValley x = of(kin(10, 2, 0, 2, 1, 3, 2));
        for (int f = 0; f < 10; f++) {
            apart(x, f, f, 0);
        }
        apart(x, 0, 2, 1);
        apart(x, 0, 1, 2);
        apart(x, 0, 3, 2);
        // by the nearer way of two
        apart(of(kin(5, 1, 0, 2, 1, 3, 2, 3, 0)), 0, 3, 1);
        apart(of(kin(6, 1, 0, 2, 1, 3, 2, 4, 3, 4, 1, 5, 4)), 0, 5, 3);
    }

    private static void apartNine() {
        Words.term(5, "the fewest steps from one to the other");
        PromiseValley x = of(row(5));
        for (int f = 0; f < 10; f++) {
            apart(x, 0, f, f);
            apart(x, 9, f, 9 - f);
        }
        // up and down by turns, nine steps: 5 0 6 1 7 2 8 3 9 4
        apart(of(kin(10, 5, 0, 6, 0, 6, 1, 7, 1, 7, 2, 8, 2, 8, 3, 9, 3, 9, 4)), 5, 4, 9);
    }

    private static void apartNever() {
        Words.promise(22, "NONE: never, or there is none such (of any).");
        PromiseValley x = of(kin(4, 1, 0, 3, 2));
        apart(x, 0, 2, -1);
        apart(x, 1, 3, -1);
        for (int folk : new int[] {MIN, -2, -1, 4, 5, 10, 32, MAX}) {
            apart(x, 0, folk, -1);
            apart(x, folk, folk, -1);
        }
        for (int valley : NO_VALLEY) {
            Check.due("apart(" + valley + ", 0, 0)", x.apart(valley, 0, 0), -1);
        }
    }

    private static void houses(String valley, int... whatAndWant) {
        PromiseValley x = of(valley);
        for (int i = 0; i + 1 < whatAndWant.length; i += 2) {
            Check.due("houses(0, " + whatAndWant[i] + ") of " + valley, x.houses(0, whatAndWant[i]), whatAndWant[i + 1]);
        }
    }

    private static void housesOfNobody() {
        Words.promise(23, "5: BURDEN (NONE), 6: of how many, 7: WATCH, how many, 8: who (bits).");
        houses("", 0, 0, 1, 0, 2, 0, 3, 0, 4, 0, 5, -1, 6, 0, 7, 0, 8, 0);
        houses("work 9 9;", 0, 0, 1, 0, 2, 0, 3, 0, 4, 0, 5, -1, 6, 0, 7, 0, 8, 0);
    }

    private static void housesOfTen() {
        Words.term(5, "HOUSES: FOLK that are any steps APART are of one: how many; how many FOLK the largest has.");
        houses(kin(1), 0, 1, 1, 1);
        houses(kin(10), 0, 10, 1, 1);
        houses(row(5), 0, 1, 1, 10);
        houses(kin(10, 9, 0), 0, 9, 1, 2);
        houses(kin(10, 2, 0, 2, 1, 9, 3, 9, 4, 8, 3), 0, 5, 1, 4);
        houses(kin(4, 2, 0, 2, 1, 3, 0, 3, 1), 0, 1, 1, 4);
        houses(kin(10, 5, 0, 6, 0, 6, 1, 7, 1, 7, 2, 8, 2, 8, 3, 9, 3, 9, 4), 0, 1, 1, 10);
    }

    private static void roots() {
        Words.term(5, "ROOTS: FOLK without PARENTS (bits)");
        houses(kin(10), 2, 1023);
        houses(row(5), 2, 1);
        houses(kin(3, 2, 0), 2, 3);
        houses(kin(3, 2, 0, 2, 1, 1, 0), 2, 1);
    }

    private static void orphansByAge() {
        Words.term(5, "ORPHANS: FOLK of AGE below 10 without GRANDPARENTS (bits)");
        houses("folk 0 1;folk 9 1;folk 10 1;folk 99 1;", 3, 3);
        // with PARENTS alone it is one; with one of the GRANDPARENTS not
        houses("folk 40 1;folk 40 1;folk 5 1;child 2 0;child 2 1;", 3, 4);
        houses("folk 70 1;folk 40 1;folk 5 1;child 1 0;child 2 1;", 3, 0);
        houses(Check.times(10, "folk 9 1;"), 3, 1023);
        houses(row(9), 3, 3);
        houses(row(10), 3, 0);
    }

    private static void cousins() {
        Words.term(5, "COUSINS: couples of unlike FOLK that have one of the GRANDPARENTS in common, and no PARENT: how many");
        houses(kin(5, 1, 0, 2, 0, 3, 1, 4, 2), 4, 1);
        houses(kin(5, 1, 0, 2, 0, 3, 1, 4, 1), 4, 0);
        // one PARENT in common of two; one of four GRANDPARENTS in common
        houses(kin(6, 1, 0, 2, 0, 4, 1, 4, 3, 5, 2, 5, 3), 4, 0);
        houses(kin(8, 2, 0, 3, 0, 4, 1, 5, 1, 6, 2, 6, 4, 7, 3, 7, 5), 4, 1);
        // three of three parents of one root: each two
        houses(kin(7, 1, 0, 2, 0, 3, 0, 4, 1, 5, 2, 6, 3), 4, 3);
        houses(kin(10), 4, 0);
        houses(row(5), 4, 0);
        // 2 is a PARENT of 3, but so is 1, of both; 3 is a PARENT of 4, and they have none in common
        houses(kin(4, 1, 0, 2, 1, 3, 2, 3, 1), 4, 0);
        houses(kin(5, 1, 0, 2, 0, 3, 1, 4, 3, 4, 2), 4, 1);
    }

    private static void burden() {
        Words.term(5, "BURDEN: the FOLK that is one of the GRANDPARENTS of most FOLK of AGE below 10, of several the least (of none: none); of how many.");
        houses(EdgesOfAsked.house(1, 8), 5, 0, 6, 8);
        houses(EdgesOfAsked.house(1, 1), 5, 0, 6, 1);
        houses(EdgesOfAsked.house(1, 0), 5, -1, 6, 0);
        houses(EdgesOfLives.line(1, 9), 5, 0, 6, 1);
        houses(EdgesOfLives.line(1, 10), 5, -1, 6, 0);
        // two of one each: the least; 3 of two: 3
        String two = "folk 70 1;folk 40 1;folk 5 1;folk 70 1;folk 40 1;folk 5 1;child 1 0;child 2 1;child 4 3;child 5 4;";
        houses(two, 5, 0, 6, 1);
        houses(two + "folk 5 1;child 6 4;", 5, 3, 6, 2);
        houses(two + "folk 10 1;child 6 4;", 5, 0, 6, 1);
        // one on both sides counts the FOLK once
        houses("folk 70 1;folk 40 1;folk 40 1;folk 5 1;child 1 0;child 2 0;child 3 1;child 3 2;", 5, 0, 6, 1);
    }

    private static void watch() {
        Words.term(5, "WATCH: the fewest FOLK of AGE below 10 such that each that is one of the GRANDPARENTS of any such FOLK is one of theirs: "
            + "how many; who (bits), of several the least.");
        houses(EdgesOfLives.line(1, 9), 7, 1, 8, 4);
        houses(EdgesOfLives.line(1, 10), 7, 0, 8, 0);
        houses(EdgesOfAsked.house(1, 8), 7, 1, 8, 4);
        // who alone, without how many being asked first
        houses(EdgesOfAsked.house(1, 8), 8, 4);
        houses(Check.times(10, "folk 5 1;"), 7, 0, 8, 0);
        String two = "folk 70 1;folk 40 1;folk 5 1;folk 70 1;folk 40 1;folk 5 1;child 1 0;child 2 1;child 4 3;child 5 4;";
        houses(two, 7, 2, 8, 36);
        // a child of both parents watches both alone
        houses(two + "folk 5 1;child 6 1;child 6 4;", 7, 1, 8, 64);
        houses(two + "folk 10 1;child 6 1;child 6 4;", 7, 2, 8, 36);
        houses(two + "folk 5 1;folk 5 1;child 6 1;child 6 4;child 7 1;child 7 4;", 7, 1, 8, 64);
        // all children of a row of ten: 2 to 9 have one each
        houses(row(9), 7, 8, 8, 1020);
        houses(row(10), 7, 0, 8, 0);
    }

    private static void housesOfAnotherWhat() {
        Words.promise(23, "-2: there is none such, or for another what.");
        PromiseValley x = of(row(9));
        for (int what : new int[] {MIN, -2, -1, 9, 10, 11, MAX}) {
            Check.due("houses(0, " + what + ")", x.houses(0, what), -2);
        }
        for (int valley : NO_VALLEY) {
            for (int what = -1; what <= 9; what++) {
                Check.due("houses(" + valley + ", " + what + ")", x.houses(valley, what), -2);
            }
        }
    }
}
