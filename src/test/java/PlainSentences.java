/**
 * The document's plain sentences, those that name no edge: one valley, one life and a few sights
 * worked out by hand, asked for by every promise.
 */
final class PlainSentences {
    /** PARENTS: of 2 both 0 and 1, of 3, 4, 5, 7 one; 4, 5, 6 are of AGE below 10, 6 is an orphan. */
    private static final String VALLEY = "folk 70 4;folk 65 3;folk 45 2;folk 40 5;folk 9 1;folk 3 0;folk 0 2;folk 16 9;"
        + "child 2 0;child 2 1;child 3 0;child 4 2;child 5 3;child 7 3;work 20 7;work 7 5;work 30 9;bound 8;";
    private static final String LIFE = "promise 4 0 3;promise 5 1 2;cover 5;year;born 2 6;promise 8 1 9;die 5;year;year;die 9;";
    private static final int STOP = 9;

    private PlainSentences() {
    }

    static void run() {
        constants();
        textOfValley();
        textOfLife();
        textOfSight();
        linesWithFaultsCount();
        placesOfTexts();
        years();
        states();
        keepAndSay();
        dare();
        plan();
        chances();
        kin();
        houses();
        further();
        sights();
        drawn();
        after();
    }

    private static PromiseValley told() {
        PromiseValley x = new PromiseValley();
        Check.told(x, 0, VALLEY, 0);
        Check.told(x, 1, LIFE, 0);
        return x;
    }

    private static void textOfValley() {
        Words.term(1, "A VALLEY has FOLK, at most 10, from 0 on: AGE, 0 .. 99, STRENGTH, 0 .. 9, PARENTS, at most two, of less numbers; "
            + "WORKS, at most 6, from 0 on: SIZE, 1 .. 30, WORTH, 0 .. 20; a WORK is BIG, if its SIZE is BOUND or more");
        Words.term(1, "; one byte. A VALLEY's text: {(('folk' | 'child' | 'work') NUMBER NUMBER | 'bound' NUMBER) ';'} "
            + "(folk: AGE, STRENGTH; child: a FOLK, 0 .. 9, a PARENT; work: SIZE, WORTH).");
        Words.promise(6, "Of a VALLEY, what 0: FOLK, 1: WORKS, 2: BOUND,");
        PromiseValley x = told();
        Check.due("FOLK", x.valley(0, 0), 8);
        Check.due("WORKS", x.valley(0, 1), 3);
        Check.due("BOUND", x.valley(0, 2), 8);
        int[][] folk = {{70, 4, 0, 0}, {65, 3, 0, 0}, {45, 2, 3, 0}, {40, 5, 1, 0},
            {9, 1, 4, 3}, {3, 0, 8, 1}, {0, 2, 0, 0}, {16, 9, 8, 1}, {-1, -1, -1, -1}, {-1, -1, -1, -1}};
        for (int f = 0; f < folk.length; f++) {
            for (int k = 0; k < 4; k++) {
                Check.due("valley(0, " + (10 + 10 * k + f) + ")", x.valley(0, 10 + 10 * k + f), folk[f][k]);
            }
        }
        int[][] works = {{20, 7}, {7, 5}, {30, 9}, {-1, -1}};
        for (int w = 0; w < works.length; w++) {
            Check.due("SIZE of " + w, x.valley(0, 50 + w), works[w][0]);
            Check.due("WORTH of " + w, x.valley(0, 60 + w), works[w][1]);
        }
        for (String other : new String[] {"year;", "die 1;", "years 1;", "dug 1 1;", "folk 1;", "work 1;", "child 1;", "bound 1 1;"}) {
            PromiseValley y = new PromiseValley();
            Check.due("a valley of " + other, Check.tell(y, 0, -1, other), -1);
            Check.due("its FAULT", y.fault(0), 1);
        }
    }

    private static void textOfLife() {
        Words.term(1, "A LIFE has DEEDS, at most 40, from 0 on.");
        Words.term(1, "A LIFE's text: {('promise' NUMBER NUMBER NUMBER | 'born' NUMBER NUMBER | ('cover' | 'die') NUMBER | 'year') ';'}");
        Words.promise(7, "of DEED k, what 0: 0 promise, 1 born, 2 cover, 3 die, 4 year,");
        PromiseValley x = told();
        int[][] deeds = {{0, 4, 0, 3}, {0, 5, 1, 2}, {2, 5, -1, -1}, {4, -1, -1, -1}, {1, 2, 6, -1}, {0, 8, 1, 9},
            {3, 5, -1, -1}, {4, -1, -1, -1}, {4, -1, -1, -1}, {3, 9, -1, -1}};
        Check.due("how many", x.deed(0, PromiseValley.NONE, 0), deeds.length);
        for (int k = 0; k < deeds.length; k++) {
            for (int what = 0; what < 4; what++) {
                Check.due("deed(0, " + k + ", " + what + ")", x.deed(0, k, what), deeds[k][what]);
            }
        }
        for (String other : new String[] {"folk 1 1;", "years 1;", "promise 1 1;", "born 1;", "cover;", "die 1 1;", "year 1;"}) {
            PromiseValley y = new PromiseValley();
            Check.due("a life of " + other, Check.tell(y, 1, -1, other), -1);
            Check.due("its FAULT", y.fault(0), 1);
        }
    }

    private static void textOfSight() {
        Words.term(1, "A SIGHT's text: {('years' NUMBER | 'dug' NUMBER NUMBER) ';'} (dug: a WORK, how far).");
        Words.promise(18, "Of a SIGHT, what 0: YEARS,");
        PromiseValley x = new PromiseValley();
        Check.told(x, 2, "dug 4 30;years 7;dug 0 2;", 0);
        int[][] due = {{0, 7}, {1, 2}, {10, 4}, {20, 30}, {11, 0}, {21, 2}};
        for (int[] row : due) {
            Check.due("sight(0, " + row[0] + ")", x.sight(0, row[0]), row[1]);
        }
        for (String other : new String[] {"folk 1 1;", "year;", "years 1 1;", "dug 1;", "dug 1 1 1;", "years;"}) {
            PromiseValley y = new PromiseValley();
            Check.due("a sight of " + other, Check.tell(y, 2, -1, other), -1);
            Check.due("its FAULT", y.fault(0), 1);
        }
    }

    private static void linesWithFaultsCount() {
        Words.term(1, "FAULTS of all, with places");
        Words.term(1, "2 a NUMBER that can't be (as above; of child the PARENT, if it is not less than the FOLK; "
            + "a line with such a NUMBER tells its FOLK, WORK, DEED, FACT all the same); 3");
        // what such a line tells can make no FAULT ahead of its own: that one stays the first by place
        Check.refused(0, "folk 1 10;" + Check.times(10, "folk 1 1;"), 2, 7);
        Check.refused(0, Check.times(9, "folk 1 1;") + "folk 1 10;folk 1 1;", 2, 88);
        Check.refused(0, "work 31 1;" + Check.times(6, "work 1 1;"), 2, 5);
        Check.refused(1, "die 10;" + Check.times(40, "year;"), 2, 4);
        Check.refused(2, "dug 0 31;" + Check.times(8, "dug 0 0;"), 2, 6);
        // nor a FAULT at the end, though its FOLK would make the child's one be there or not
        Check.refused(0, "folk 1 10;child 1 0;", 2, 7);
        Check.refused(0, "folk 1 1;child 1 1;", 2, 17);
    }

    private static void constants() {
        Words.term(5, "The constants: `NONE = -1`: There is none.");
        Check.due("NONE", PromiseValley.NONE, -1);
    }

    private static void placesOfTexts() {
        Words.term(1, "VALLEYS, at most 2 (sort 0), LIVES, at most 2 (1), SIGHTS, at most 2 (2), from 0 on.");
        Words.promise(2, "The tape:");
        String[] texts = {"bound 3;", "year;", "years 3;"};
        PromiseValley x = new PromiseValley();
        for (int sort = 0; sort < 3; sort++) {
            Check.told(x, sort, "", 0);
            Check.told(x, sort, texts[sort], 1);
            Check.due("a third one", Check.tell(x, sort, -1, texts[sort]), -2);
            Check.due("count(" + sort + ")", x.count(sort), 2);
        }
        Check.due("BOUND of 0", x.valley(0, 2), 20);
        Check.due("BOUND of 1", x.valley(1, 2), 3);
        Check.due("DEEDS of 0", x.deed(0, -1, 0), 0);
        Check.due("DEEDS of 1", x.deed(1, -1, 0), 1);
        Check.due("YEARS of 0", x.sight(0, 0), 1);
        Check.due("YEARS of 1", x.sight(1, 0), 3);
    }

    /** No text has room for a hundredth year: that none of the first 40 is refused is all that shows. */
    private static void years() {
        Words.term(2, "year (up to 99): one behind the other");
        PromiseValley x = new PromiseValley();
        Check.told(x, 0, "folk 30 1;", 0);
        Check.told(x, 1, Check.times(40, "year;"), 0);
        Check.due("STOP", x.stop(0, 0), 40);
        for (int n = 0; n <= 40; n++) {
            Check.due("the year behind " + n, x.state(0, 0, n, 0), n);
            Check.due("AGE behind " + n, x.state(0, 0, n, 10), 30 + n);
        }
    }

    private static void states() {
        Words.term(2, "A STATE is behind the first n DEEDS, n up to STOP.");
        Words.promise(8, "STOP.");
        Words.promise(9, "Of a STATE, what 0: the year, 1: FOLK, 2: those that live (bits), 3: COVERED ones (bits), 4: PROMISES, "
            + "5: WORKS that are DONE (bits),");
        PromiseValley x = told();
        Check.due("stop(0, 0)", x.stop(0, 0), STOP);
        // behind each DEED: year, FOLK, living, COVERED, PROMISES, DONE, whom 0 and 1 OWE, DUG of 0 and 1
        int[][] due = {
            {0, 8, 255, 0, 0, 0, 0, 0, 0, 0}, {0, 8, 255, 0, 1, 0, 1, 1, 0, 0}, {0, 8, 255, 0, 2, 0, 3, 1, 0, 0},
            {0, 8, 255, 32, 2, 0, 3, 1, 0, 0}, {1, 8, 255, 0, 2, 0, 3, 1, 3, 4}, {1, 9, 511, 0, 2, 0, 3, 1, 3, 4},
            {1, 9, 511, 0, 3, 0, 7, 5, 3, 4}, {1, 9, 479, 0, 3, 0, 5, 5, 3, 4}, {2, 9, 479, 0, 3, 0, 5, 5, 10, 4},
            {3, 9, 479, 0, 3, 0, 4, 4, 17, 4}};
        int[] what = {0, 1, 2, 3, 4, 5, 20, 21, 30, 31};
        for (int n = 0; n <= STOP; n++) {
            for (int k = 0; k < what.length; k++) {
                Check.due("state(0, 0, " + n + ", " + what[k] + ")", x.state(0, 0, n, what[k]), due[n][k]);
            }
        }
        int[][] last = {{14, 12}, {15, 4}, {18, 2}, {32, 0}, {40, 3}, {41, 2}, {42, 0}, {60, 3}, {61, 2}, {62, 10}, {63, -2}};
        for (int[] row : last) {
            Check.due("state(0, 0, " + STOP + ", " + row[0] + ")", x.state(0, 0, STOP, row[0]), row[1]);
        }
        Check.due("behind STOP", x.state(0, 0, STOP + 1, 0), -2);
    }

    private static void keepAndSay() {
        Words.term(3, "A FOLK of AGE below 10 can KEEP a WORK");
        Words.term(3, "SAY of some WORKS (bits), n: each of these by a FOLK");
        Words.promise(10, "Whether a FOLK can KEEP a WORK in n years: 1, else 0.");
        Words.promise(11, "SAY of WORKS (bits), n: how many WORKS");
        Words.promise(24, "SOON.");
        PromiseValley x = told();
        // from which year on each of 4, 5, 6 can KEEP 0, 1, 2: their GRANDPARENTS have 7, 4, 0
        int[][] soon = {{3, 1, 5}, {5, 2, 8}, {-1, -1, -1}};
        for (int f = 4; f <= 6; f++) {
            for (int w = 0; w < 3; w++) {
                int first = soon[f - 4][w];
                Check.due("soon(0, " + f + ", " + w + ")", x.soon(0, f, w), first);
                for (int n = 1; n <= 9; n++) {
                    Check.due("keep(0, " + f + ", " + w + ", " + n + ")", x.keep(0, f, w, n), first > 0 && n >= first ? 1 : 0);
                }
            }
        }
        int[][] said = {{3, 5, 4, 5}, {3, 3, 4, 5}, {3, 2, -1, -1}, {6, 5, 5, 4}, {6, 8, 4, 5}, {7, 9, -1, -1}, {5, 5, 5, 4}};
        for (int[] row : said) {
            String call = "say(0, " + row[0] + ", " + row[1] + ", ";
            Check.due(call + "-1)", x.say(0, row[0], row[1], -1), row[2] < 0 ? -1 : 2);
            Check.due(call + "0)", x.say(0, row[0], row[1], 0), row[2]);
            Check.due(call + "1)", x.say(0, row[0], row[1], 1), row[3]);
            Check.due(call + "2)", x.say(0, row[0], row[1], 2), -1);
        }
    }

    private static void dare() {
        Words.term(3, "two by turns, n times in all, take a WORK nobody has, and with it the least FOLK nobody has");
        Words.term(3, "or none: WORTH is his whose turn it was: how much more the first has than the second in the end, "
            + "if both want as much more as they can;");
        Words.promise(12, "DARE of n: how much, or (first)");
        PromiseValley x = told();
        // two FOLK are enough for two WORKS alone: the first gets 9, the second 7, whatever comes then
        int[] lead = {0, 9, 2, 2, 2};
        for (int n = 0; n <= 4; n++) {
            Check.due("dare(0, " + n + ", false)", x.dare(0, n, false), lead[n]);
            Check.due("dare(0, " + n + ", true)", x.dare(0, n, true), n == 0 ? -1 : 2);
        }
    }

    private static void plan() {
        Words.term(3, "PLAN of n years, 1 .. 9: each FOLK digs, by STRENGTH a year, at one WORK");
        Words.promise(13, "PLAN of n,");
        PromiseValley x = told();
        // STRENGTHS 9 5 4 3 2 2 1 0, 26 in all; in a year 20, 7, 30 are needed, in two 10, 4, 15, in nine 3, 1, 4
        int[][] due = {{1, 7, 1, 4}, {2, 16, 5, 6}, {9, 21, 7, 3}};
        for (int[] row : due) {
            for (int what = 0; what < 3; what++) {
                Check.due("plan(0, " + row[0] + ", " + what + ")", x.plan(0, row[0], what), row[1 + what]);
            }
        }
    }

    private static void chances() {
        Words.term(3, "ODDS of a FOLK of AGE below 10, a WORK, n: each of its GRANDPARENTS lives all these years");
        Words.term(3, "(cut), by itself, else digs nothing: how likely it is that those who live can do it (as KEEP), a fraction in least terms.");
        Words.term(3, "POWER of one of its GRANDPARENTS: in rows of all its GRANDPARENTS, all being alike, how likely it is");
        Words.term(3, "can first do it in n years, a fraction in least terms.");
        PromiseValley x = told();
        // 0 lives by 3 of ten, 1 by 4; in one year both are needed for 7, in two 0 is enough, in three each is
        long[][] odds = {{3, 25}, {3, 10}, {29, 50}};
        long[][] power = {{1, 2, 1, 2}, {1, 1, 0, 1}, {1, 2, 1, 2}};
        for (int n = 1; n <= 3; n++) {
            Check.due("odds in " + n, x.odds(0, 4, 1, n, false), odds[n - 1][0]);
            Check.due("odds under in " + n, x.odds(0, 4, 1, n, true), odds[n - 1][1]);
            for (int g = 0; g < 2; g++) {
                Check.due("power of " + g + " in " + n, x.power(0, 4, 1, n, g, false), power[n - 1][2 * g]);
                Check.due("power under of " + g + " in " + n, x.power(0, 4, 1, n, g, true), power[n - 1][2 * g + 1]);
            }
        }
    }

    private static void kin() {
        Words.term(3, "KINSHIP of two FOLK: of one and itself 1 by 2");
        Words.term(3, "together (none: 0): a fraction in least terms. LINE:");
        Words.promise(16, "KINSHIP, N, or (under) D.");
        Words.promise(21, "ELDERS, or (young) YOUNG of a FOLK (bits).");
        Words.promise(22, "APART.");
        Words.promise(29, "WEDDING.");
        Words.term(5, "WEDDING of two unlike FOLK: whether both are of AGE 16 or more");
        PromiseValley x = told();
        int[][] near = {{0, 0, 1, 2}, {2, 2, 1, 2}, {0, 1, 0, 1}, {2, 0, 1, 4}, {2, 3, 1, 8}, {4, 0, 1, 8}, {4, 3, 1, 16},
            {4, 5, 1, 32}, {5, 7, 1, 8}, {6, 0, 0, 1}, {7, 2, 1, 16}};
        for (int[] row : near) {
            Check.due("kinship(0, " + row[0] + ", " + row[1] + ")", x.kinship(0, row[0], row[1], false), row[2]);
            Check.due("under", x.kinship(0, row[0], row[1], true), row[3]);
            Check.due("kinship(0, " + row[1] + ", " + row[0] + ")", x.kinship(0, row[1], row[0], false), row[2]);
            Check.due("under", x.kinship(0, row[1], row[0], true), row[3]);
        }
        PromiseValley y = new PromiseValley();
        Check.told(y, 0, "folk 1 1;folk 1 1;folk 1 1;child 1 0;child 2 0;child 2 1;", 0);
        Check.due("kinship of one whose parents are kin", y.kinship(0, 2, 2, false), 5);
        Check.due("under", y.kinship(0, 2, 2, true), 8);
        int[] line = {3, 0, 2, 4, -1};
        for (int k = -1; k < 4; k++) {
            Check.due("line(0, " + k + ")", x.line(0, k), line[k + 1]);
        }
        int[] elders = {0, 0, 3, 1, 7, 9, 0, 9};
        int[] young = {188, 20, 16, 160, 0, 0, 0, 0};
        for (int f = 0; f < 8; f++) {
            Check.due("elders of " + f, x.elders(0, f, false), elders[f]);
            Check.due("young of " + f, x.elders(0, f, true), young[f]);
        }
        int[][] apart = {{4, 5, 4}, {5, 4, 4}, {1, 3, 3}, {0, 7, 2}, {2, 1, 1}, {4, 6, -1}, {6, 6, 0}};
        for (int[] row : apart) {
            Check.due("apart(0, " + row[0] + ", " + row[1] + ")", x.apart(0, row[0], row[1]), row[2]);
        }
        int[][] wed = {{0, 1, 1}, {2, 3, 0}, {7, 1, 1}, {4, 0, 0}, {7, 2, 1}, {3, 0, 0}, {6, 1, 0}};
        for (int[] row : wed) {
            Check.due("wedding(0, " + row[0] + ", " + row[1] + ")", x.wedding(0, row[0], row[1]), row[2]);
        }
    }

    private static void houses() {
        Words.promise(23, "What 0: HOUSES, 1: the largest, 2: ROOTS, 3: ORPHANS (bits), 4: COUSINS,");
        PromiseValley x = told();
        int[] due = {2, 7, 67, 64, 2, 0, 2, 1, 16};
        for (int what = 0; what < due.length; what++) {
            Check.due("houses(0, " + what + ")", x.houses(0, what), due[what]);
        }
    }

    private static void further() {
        Words.promise(25, "Of n years, what 0: NEVER (bits), 1: MOST, how many, 2: the most WORTH.");
        Words.promise(26, "LOT of s: how much, or (which) which (bits).");
        Words.promise(27, "ALL (NONE: not in 99 years), or (halves) HALVES.");
        Words.promise(28, "LOSS of a FOLK, n.");
        Words.term(5, "LOSS of a FOLK, n years: how many couples");
        PromiseValley x = told();
        int[][] most = {{1, 5, 1, 5}, {2, 5, 1, 5}, {3, 4, 2, 12}, {5, 0, 2, 16}, {9, 0, 2, 16}};
        for (int[] row : most) {
            for (int what = 0; what < 3; what++) {
                Check.due("most(0, " + row[0] + ", " + what + ")", x.most(0, row[0], what), row[1 + what]);
            }
        }
        int[][] lot = {{0, 0, 0}, {6, 0, 0}, {7, 5, 2}, {20, 7, 1}, {27, 12, 3}, {30, 12, 3}, {37, 14, 6}, {50, 16, 5}, {57, 21, 7}, {99, 21, 7}};
        for (int[] row : lot) {
            Check.due("lot(0, " + row[0] + ", false)", x.lot(0, row[0], false), row[1]);
            Check.due("lot(0, " + row[0] + ", true)", x.lot(0, row[0], true), row[2]);
        }
        Check.due("heaps(0, false)", x.heaps(0, false), 3);
        Check.due("heaps(0, true)", x.heaps(0, true), 3);
        int[][] loss = {{0, 1, 1}, {1, 1, 1}, {0, 2, 2}, {1, 2, 0}, {7, 9, 0}, {0, 9, 4}, {1, 9, 0}};
        for (int[] row : loss) {
            Check.due("loss(0, " + row[0] + ", " + row[1] + ")", x.loss(0, row[0], row[1]), row[2]);
        }
    }

    private static void sights() {
        Words.term(4, "By a SIGHT in a VALLEY: one PROMISE was made in year 0");
        Words.term(4, "how many; the k-th, by numbers; SURE");
        Words.term(5, "By a SIGHT in a VALLEY: SHARE of a FOLK");
        Words.promise(31, "SHARE of a FOLK, N, or (under) D.");
        PromiseValley x = told();
        // 1 is DONE in two years if 4 or 5 promised it; 0 is DUG by 12 in three years if 5 did, in 9 years it is DONE
        Check.told(x, 2, "years 2;dug 1 7;", 0);
        Check.told(x, 2, "years 3;dug 0 12;", 1);
        int[][] due = {{0, 2, 1}, {1, -1, 5}, {2, 0, 0}, {10, 41, 50}, {11, 51, -2}, {12, -2, -2}};
        for (int[] row : due) {
            Check.due("fits(0, 0, " + row[0] + ")", x.fits(0, 0, row[0]), row[1]);
            Check.due("fits(0, 1, " + row[0] + ")", x.fits(0, 1, row[0]), row[2]);
        }
        Check.due("later(0, 0)", x.later(0, 0), 2);
        Check.due("later(0, 1)", x.later(0, 1), 1);
        int[][] share = {{4, 1, 2, 0, 1}, {5, 1, 2, 1, 1}, {6, 0, 1, 0, 1}, {0, 0, 1, 0, 1}};
        for (int[] row : share) {
            for (int s = 0; s < 2; s++) {
                Check.due("share of " + row[0] + " by " + s, x.share(0, s, row[0], false), row[1 + 2 * s]);
                Check.due("under", x.share(0, s, row[0], true), row[2 + 2 * s]);
            }
        }
    }

    /**
     * By these seeds, of some 10 million one, the grandchild of one that was born promises, and that one
     * digs by the STRENGTH it drew; as it would be by a number below 9 or 11 it would be otherwise.
     */
    private static void drawn() {
        Words.term(4, "DRAWN by a SEED, x; a number below n is drawn: x becomes");
        Words.term(4, "remainder by n: n times, 0 to 60: a number below 8");
        Words.term(4, "4: born, a FOLK, a number below 10;");
        PromiseValley x = new PromiseValley();
        Check.told(x, 0, "folk 16 0;folk 16 0;folk 16 0;work 30 0;bound 1;", 0);
        int[][] due = {{6926357, 2}, {197767189, 4}, {199864341, 8}, {221360149, 4}, {246525973, 6}, {405909525, 2}};
        for (int[] row : due) {
            Check.due("dug by " + row[0], x.drawn(0, row[0], 60, 30), row[1]);
        }
    }

    private static void after() {
        Words.term(5, "Of a LIFE in a VALLEY, behind all DEEDS up to STOP: FIRST");
        Words.promise(30, "What 0: FIRST (NONE), 1: HAND (NONE), 2: TALKER (NONE), 10 + s: MANY of s, as state() has it.");
        PromiseValley x = told();
        int[][] due = {{0, -1}, {1, 0}, {2, 4}, {10, 1}, {11, 0}, {12, 1}, {13, 1}, {14, 0}};
        for (int[] row : due) {
            Check.due("after(0, 0, " + row[0] + ")", x.after(0, 0, row[0]), row[1]);
        }
        Check.told(x, 1, "promise 4 1 9;promise 6 0 1;year;promise 4 2 1;", 1);
        // 4 and 3 are all of 7; 4 is of AGE 10 by then, 6 has no GRANDPARENTS
        int[][] kept = {{0, 2}, {1, 0}, {2, 4}, {10, 0}, {11, 1}, {12, 0}, {13, 0}, {14, 1}};
        for (int[] row : kept) {
            Check.due("after(0, 1, " + row[0] + ")", x.after(0, 1, row[0]), row[1]);
        }
    }
}
