/** Edges of terms 4 and 5 and of promises 19, 31 and 32: who promised what, by what is dug. */
final class EdgesOfSights {
    private static final int MIN = Integer.MIN_VALUE;
    private static final int MAX = Integer.MAX_VALUE;
    private static final int[] NONE_SUCH = {MIN, -2, -1, 1, 2, MAX};
    /** FOLK 2 has a grandparent of 9, FOLK 5 one of 2. */
    private static final String TWO = EdgesOfAsked.house(9, 1) + "folk 70 2;folk 40 0;folk 5 0;child 4 3;child 5 4;";

    private EdgesOfSights() {
    }

    static void run() {
        nothingFits();
        allFitWithoutFacts();
        fitsByAge();
        fitsJustSoFar();
        fitsByYears();
        fitsWhatIsLetGo();
        fitsAllFacts();
        fitsTheKth();
        sureOfOne();
        askTheLeast();
        workThatIsNotThere();
        fitsOfNoneSuch();
        fitsOfAnotherWhat();
        shareOfFolk();
        shareOfNothing();
        laterInNineYears();
        laterOfNoneSuch();
    }

    private static PromiseValley seen(String valley, String sight) {
        PromiseValley x = EdgesOfAsked.of(valley);
        Check.told(x, 2, sight, 0);
        return x;
    }

    /** How many FIT, SURE, ASK, LATER; then all that FIT. */
    private static void fits(String valley, String sight, int sure, int ask, int later, int... each) {
        PromiseValley x = seen(valley, sight);
        String by = " by " + sight + " in " + valley;
        Check.due("how many" + by, x.fits(0, 0, 0), each.length);
        Check.due("sure" + by, x.fits(0, 0, 1), sure);
        Check.due("ask" + by, x.fits(0, 0, 2), ask);
        Check.due("later" + by, x.later(0, 0), later);
        for (int k = 0; k < each.length; k++) {
            Check.due("the " + k + "-th" + by, x.fits(0, 0, 10 + k), each[k]);
        }
        Check.due("no more" + by, x.fits(0, 0, 10 + each.length), -2);
    }

    private static void share(PromiseValley x, int folk, long over, long under) {
        Check.due("share of " + folk, x.share(0, 0, folk, false), over);
        Check.due("share of " + folk + " (under)", x.share(0, 0, folk, true), under);
    }

    private static void nothingFits() {
        Words.promise(19, "What 0: how many FIT, 1: SURE (NONE: not one), 2: ASK (NONE: nothing FITS)");
        fits("", "", -1, -1, 0);
        fits("folk 5 1;", "", -1, -1, 0);
        fits("work 9 1;", "", -1, -1, 0);
        fits("folk 10 1;work 9 1;", "", -1, -1, 0);
        fits(TWO + "work 9 1;", "dug 0 1;", -1, -1, 0);
    }

    private static void allFitWithoutFacts() {
        Words.term(4, "PROMISES (10 times the FOLK, and the WORK) FIT, if all WORKS told of are DUG just so far");
        PromiseValley x = seen(Check.times(10, "folk 9 9;") + Check.times(6, "work 1 1;"), "");
        Check.due("how many", x.fits(0, 0, 0), 60);
        Check.due("sure", x.fits(0, 0, 1), -1);
        Check.due("ask", x.fits(0, 0, 2), 0);
        for (int k = 0; k < 60; k++) {
            Check.due("the " + k + "-th", x.fits(0, 0, 10 + k), 10 * (k / 6) + k % 6);
        }
        for (int what = 70; what < 80; what++) {
            Check.due("fits(0, 0, " + what + ")", x.fits(0, 0, what), -2);
        }
        Check.due("later", x.later(0, 0), 0);
        for (int folk = 0; folk < 10; folk++) {
            share(x, folk, 1, 10);
        }
        // nothing dug fits all, a bit none
        fits("folk 5 1;folk 9 1;work 9 1;", "dug 0 0;", -1, 0, 0, 0, 10);
        fits("folk 5 1;folk 9 1;work 9 1;", "dug 0 1;", -1, -1, 0);
    }

    private static void fitsByAge() {
        Words.term(4, "one PROMISE was made in year 0, by a FOLK of AGE below 10, of a WORK, for 9 years, and YEARS went by");
        fits(EdgesOfLives.line(5, 0) + "work 5 1;", "dug 0 5;", 2, 0, 1, 20);
        fits(EdgesOfLives.line(5, 9) + "work 5 1;", "dug 0 5;", 2, 0, 1, 20);
        fits(EdgesOfLives.line(5, 10) + "work 5 1;", "", -1, -1, 0);
        fits(EdgesOfLives.line(5, 10) + "work 5 1;", "dug 0 0;", -1, -1, 0);
    }

    private static void fitsJustSoFar() {
        Words.term(4, "if all WORKS told of are DUG just so far");
        for (int far = 0; far <= 30; far++) {
            // 9 of 30 are dug, or all 5 of 5, or 0 of the other one
            PromiseValley x = seen(EdgesOfAsked.house(9, 1) + "work 30 1;work 5 1;", "dug 0 " + far + ";");
            Check.due("dug 0 " + far, x.fits(0, 0, 0), far == 9 || far == 0 ? 1 : 0);
            Check.due("which by dug 0 " + far, x.fits(0, 0, 10), far == 9 ? 20 : far == 0 ? 21 : -2);
            x = seen(EdgesOfAsked.house(9, 1) + "work 30 1;work 5 1;", "dug 1 " + far + ";");
            Check.due("dug 1 " + far, x.fits(0, 0, 0), far == 5 || far == 0 ? 1 : 0);
            Check.due("which by dug 1 " + far, x.fits(0, 0, 10), far == 5 ? 21 : far == 0 ? 20 : -2);
        }
    }

    private static void fitsByYears() {
        Words.term(4, "for 9 years, and YEARS went by");
        for (int years = 1; years <= 9; years++) {
            int far = 3 * years;
            String valley = "folk 70 3;folk 40 0;folk 0 0;child 1 0;child 2 1;work 28 1;";
            fits(valley, "years " + years + ";dug 0 " + far + ";", 2, 0, 0, 20);
            fits(valley, "years " + years + ";dug 0 " + (far - 1) + ";", -1, -1, 0);
            fits(valley, "years " + years + ";dug 0 " + (far + 1) + ";", -1, -1, 0);
        }
        // 1 at first
        fits(EdgesOfAsked.house(3, 1) + "work 28 1;", "dug 0 3;", 2, 0, 0, 20);
        fits(EdgesOfAsked.house(3, 1) + "work 28 1;", "years 9;years 1;dug 0 3;", 2, 0, 0, 20);
    }

    private static void fitsWhatIsLetGo() {
        Words.term(4, "one PROMISE was made in year 0, by a FOLK of AGE below 10, of a WORK, for 9 years, and YEARS went by");
        // from AGE 10 on nothing more is dug, unless it is BIG
        for (int years = 1; years <= 9; years++) {
            int far = 2 * Math.min(years, 3);
            fits(EdgesOfLives.line(2, 7) + "work 19 1;", "years " + years + ";dug 0 " + far + ";", 2, 0, 0, 20);
            fits(EdgesOfLives.line(2, 7) + "work 20 1;", "years " + years + ";dug 0 " + 2 * years + ";", 2, 0, 0, 20);
        }
        // what is FREE is a promise too: nothing is dug
        fits("folk 5 9;work 1 1;", "years 9;dug 0 0;", 0, 0, 0, 0);
    }

    private static void fitsAllFacts() {
        Words.term(4, "FIT, if all WORKS told of are DUG just so far: how many");
        String valley = TWO + "work 30 1;work 30 1;";
        fits(valley, "", -1, 0, 2, 20, 21, 50, 51);
        fits(valley, "dug 0 0;", -1, 1, 1, 21, 51);
        fits(valley, "dug 0 0;dug 1 9;", 2, 0, 1, 21);
        fits(valley, "dug 0 0;dug 1 0;", -1, -1, 0);
        fits(valley, "dug 1 2;dug 1 2;", 5, 0, 0, 51);
        fits(valley, "dug 1 2;dug 1 9;", -1, -1, 0);
        fits(valley, Check.times(7, "dug 1 2;") + "dug 0 0;", 5, 0, 0, 51);
        fits(valley, Check.times(7, "dug 1 2;") + "dug 0 1;", -1, -1, 0);
    }

    private static void fitsTheKth() {
        Words.promise(19, "10 + k: the k-th. -2: a WORK that was told of is not there, there is none such (of any), or for another what.");
        PromiseValley x = seen(TWO + "work 30 1;work 30 1;", "");
        int[] each = {20, 21, 50, 51};
        for (int k = 0; k < 4; k++) {
            Check.due("fits(0, 0, " + (10 + k) + ")", x.fits(0, 0, 10 + k), each[k]);
        }
        for (int what : new int[] {14, 15, 69, 70, 9, 3, MAX}) {
            Check.due("fits(0, 0, " + what + ")", x.fits(0, 0, what), -2);
        }
    }

    private static void sureOfOne() {
        Words.term(4, "SURE of the FOLK: it, if it is one in all");
        // one that FITS, one FOLK of several WORKS, two FOLK of one WORK
        fits(TWO + "work 30 1;", "dug 0 9;", 2, 0, 1, 20);
        fits(EdgesOfAsked.house(9, 1) + Check.times(6, "work 30 1;"), "", 2, 0, 6, 20, 21, 22, 23, 24, 25);
        fits(TWO + "work 2 1;", "dug 0 2;", -1, 0, 2, 20, 50);
        fits("folk 0 0;work 1 1;", "", 0, 0, 0, 0);
    }

    private static void askTheLeast() {
        Words.term(4, "ASK: the WORK of which, of those that FIT, the greatest number by which it is DUG just as far is least, of several the least.");
        // 20, 21, 50, 51 of WORKS that both do at once: each WORK is 2 by 2
        fits(TWO + "work 2 1;work 2 1;", "", -1, 0, 4, 20, 21, 50, 51);
        // WORK 1 tells 9, 2, and 0 twice apart; WORK 0 is 2, 2 and 0, 0: 2 each, so the least
        fits(TWO + "work 2 1;work 30 1;", "", -1, 0, 3, 20, 21, 50, 51);
        // of WORK 0 nothing is dug by either that FITS, of WORK 1 either 9 or 2
        fits(TWO + "work 2 1;work 30 1;", "dug 0 0;", -1, 1, 1, 21, 51);
        // WORK 0 is 4 alike, WORKS 1 and 2 are 2 of 0, 9, 2 each
        fits(TWO + "work 30 1;work 30 1;work 30 1;", "dug 0 0;", -1, 1, 2, 21, 22, 51, 52);
        // DUG by 1 is not as far as by 0
        fits(EdgesOfAsked.house(2, 1) + "work 1 1;work 18 1;", "", 2, 0, 1, 20, 21);
        // DUG by 30 is as far as may be: 2 of WORK 1 as of WORK 0
        String four = "folk 70 9;folk 70 9;folk 70 9;folk 70 9;folk 40 0;folk 40 0;folk 5 0;folk 5 0;"
            + "child 4 0;child 4 1;child 5 2;child 5 3;child 6 4;child 6 5;child 7 4;child 7 5;";
        fits(four + "work 9 1;work 30 1;", "dug 1 30;", -1, 0, 2, 61, 71);
        // the last of six WORKS
        fits(TWO + Check.times(5, "work 1 1;") + "work 30 1;", "dug 0 0;dug 1 0;dug 2 0;dug 3 0;dug 4 0;", -1, 5, 1, 25, 55);
        // 2 are alike of either WORK
        fits(EdgesOfAsked.house(9, 2) + "work 30 1;work 9 1;", "dug 0 0;", -1, 0, 2, 21, 31);
    }

    private static void workThatIsNotThere() {
        Words.promise(19, "-2: a WORK that was told of is not there");
        for (int works = 0; works <= 5; works++) {
            String valley = EdgesOfAsked.house(9, 1) + Check.times(works, "work 9 1;");
            for (int told = 0; told <= 5; told++) {
                PromiseValley x = seen(valley, "dug " + told + " 0;");
                boolean there = told < works;
                Check.due("how many", x.fits(0, 0, 0), there ? works - 1 : -2);
                for (int what = 1; !there && what < 12; what++) {
                    Check.due("fits(0, 0, " + what + ")", x.fits(0, 0, what), -2);
                }
                Check.due("later", x.later(0, 0), there ? works - 1 : -2);
                Check.due("share", x.share(0, 0, 2, false), there && works > 1 ? 1 : -1);
                Check.due("share (under)", x.share(0, 0, 2, true), there && works > 1 ? 1 : -1);
            }
        }
        // though an earlier FACT, or a later one, fits nothing anyhow
        PromiseValley x = seen(TWO + "work 9 1;", "dug 0 1;dug 1 0;");
        Check.due("how many", x.fits(0, 0, 0), -2);
        x = seen(TWO + "work 9 1;", "dug 5 0;dug 0 9;");
        Check.due("how many", x.fits(0, 0, 0), -2);
    }

    private static void fitsOfNoneSuch() {
        Words.promise(19, "there is none such (of any)");
        PromiseValley x = new PromiseValley();
        Check.due("fits of nothing", x.fits(0, 0, 0), -2);
        Check.told(x, 2, "", 0);
        Check.due("fits without a valley", x.fits(0, 0, 0), -2);
        x = EdgesOfAsked.of(TWO + "work 9 1;");
        Check.due("fits without a sight", x.fits(0, 0, 0), -2);
        Check.told(x, 2, "", 0);
        for (int none : NONE_SUCH) {
            for (int what : new int[] {0, 1, 2, 10}) {
                Check.due("fits(" + none + ", 0, " + what + ")", x.fits(none, 0, what), -2);
                Check.due("fits(0, " + none + ", " + what + ")", x.fits(0, none, what), -2);
            }
        }
        Check.told(x, 2, "dug 0 9;", 1);
        Check.told(x, 0, "", 1);
        Check.due("fits(0, 1, 0)", x.fits(0, 1, 0), 1);
        Check.due("fits(1, 0, 0)", x.fits(1, 0, 0), 0);
        Check.due("fits(1, 1, 0)", x.fits(1, 1, 0), -2);
    }

    private static void fitsOfAnotherWhat() {
        Words.promise(19, "or for another what.");
        PromiseValley x = seen(TWO + "work 9 1;", "");
        for (int what : new int[] {MIN, MIN + 9, MIN + 10, MIN + 11, -10, -2, -1, 3, 4, 9, 12, 13, 70, MAX}) {
            Check.due("fits(0, 0, " + what + ")", x.fits(0, 0, what), -2);
        }
    }

    private static void shareOfFolk() {
        Words.term(5, "SHARE of a FOLK: all that FIT being alike, how likely it was it, a fraction in least terms");
        PromiseValley x = seen(TWO + "work 30 1;work 2 1;", "");
        share(x, 2, 1, 2);
        share(x, 5, 1, 2);
        // those that can't have promised: none of all
        share(x, 0, 0, 1);
        share(x, 1, 0, 1);
        share(x, 4, 0, 1);
        x = seen(TWO + "work 30 1;work 2 1;", "dug 0 9;");
        share(x, 2, 1, 1);
        share(x, 5, 0, 1);
        // three of four are of 2 to 4, and one of 7
        String valley = EdgesOfAsked.house(9, 3) + "folk 70 9;folk 40 0;folk 5 0;child 6 5;child 7 6;work 9 1;";
        x = seen(valley, "dug 0 9;");
        for (int folk = 2; folk <= 4; folk++) {
            share(x, folk, 1, 4);
        }
        share(x, 7, 1, 4);
        share(seen("folk 5 1;folk 5 1;folk 5 1;work 1 1;work 1 1;", ""), 2, 1, 3);
    }

    private static void shareOfNothing() {
        Words.promise(31, "NONE: nothing FITS, as -2 of fits(), or there is none such.");
        share(seen(TWO + "work 30 1;", "dug 0 1;"), 2, -1, -1);
        share(seen("folk 5 1;", ""), 0, -1, -1);
        share(seen("", ""), 0, -1, -1);
        share(seen(TWO + "work 30 1;", "dug 1 0;"), 2, -1, -1);
        PromiseValley x = seen(TWO + "work 30 1;", "");
        share(x, 2, 1, 2);
        for (int folk : new int[] {MIN, -2, -1, 6, 7, 10, MAX}) {
            share(x, folk, -1, -1);
        }
        for (int none : NONE_SUCH) {
            for (boolean under : new boolean[] {false, true}) {
                Check.due("share(" + none + ", 0, 2)", x.share(none, 0, 2, under), -1);
                Check.due("share(0, " + none + ", 2)", x.share(0, none, 2, under), -1);
            }
        }
    }

    private static void laterInNineYears() {
        Words.term(5, "LATER: by how many of those that FIT the WORK is DONE, once 9 years went by.");
        fits(EdgesOfLives.line(3, 0) + "work 27 1;", "", 2, 0, 1, 20);
        fits(EdgesOfLives.line(3, 0) + "work 28 1;", "", 2, 0, 0, 20);
        // by 9 years from the beginning, however many went by
        for (int years = 1; years <= 9; years++) {
            fits(EdgesOfLives.line(3, 0) + "work 27 1;", "years " + years + ";", 2, 0, 1, 20);
            fits(EdgesOfLives.line(3, 0) + "work 28 1;", "years " + years + ";", 2, 0, 0, 20);
        }
        // of AGE 1 it is 10 once 9 years went by, of AGE 2 a year ahead of that
        fits(EdgesOfLives.line(2, 1) + "work 18 1;", "", 2, 0, 1, 20);
        fits(EdgesOfLives.line(2, 2) + "work 18 1;", "", 2, 0, 0, 20);
        fits(EdgesOfLives.line(2, 2) + "work 18 1;bound 18;", "", 2, 0, 1, 20);
        fits(EdgesOfLives.line(2, 2) + "work 16 1;", "", 2, 0, 1, 20);
        // of those that FIT alone
        fits(TWO + "work 30 1;work 2 1;", "dug 0 2;", 5, 0, 0, 50);
        fits(TWO + "work 30 1;work 2 1;", "dug 1 2;", -1, 0, 2, 21, 51);
    }

    private static void laterOfNoneSuch() {
        Words.promise(32, "LATER. -2 as fits().");
        PromiseValley x = new PromiseValley();
        Check.due("later of nothing", x.later(0, 0), -2);
        x = EdgesOfAsked.of(TWO + "work 9 1;");
        Check.due("later without a sight", x.later(0, 0), -2);
        Check.told(x, 2, "", 0);
        Check.due("later(0, 0)", x.later(0, 0), 2);
        for (int none : NONE_SUCH) {
            Check.due("later(" + none + ", 0)", x.later(none, 0), -2);
            Check.due("later(0, " + none + ")", x.later(0, none), -2);
        }
        Check.told(x, 2, "dug 1 0;", 1);
        Check.due("later(0, 1)", x.later(0, 1), -2);
        Check.due("nothing FITS", Check.tell(x, 2, 1, "dug 0 1;"), 1);
        Check.due("later(0, 1)", x.later(0, 1), 0);
    }
}
