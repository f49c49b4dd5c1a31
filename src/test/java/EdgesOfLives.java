/** Edges of term 2 and of promises 8, 9, 20 and 30: lives, as told and by a seed. */
final class EdgesOfLives {
    private static final int MIN = Integer.MIN_VALUE;
    private static final int MAX = Integer.MAX_VALUE;
    private static final int OPEN = 0;
    private static final int KEPT = 1;
    private static final int LET_GO = 2;
    private static final int BROKEN = 3;
    private static final int FREE = 4;

    private EdgesOfLives() {
    }

    static void run() {
        lifeBegins();
        lifeInAnEmptyValley();
        whoPromisesByAge();
        whoPromisesAlive();
        whoPromisesUncovered();
        whatIsPromised();
        twelvePromises();
        openOrFree();
        dueInAsManyYears();
        whoIsCovered();
        coveredTillTheNextYear();
        whoDies();
        whatIsLetGoByDeath();
        whoBears();
        fewerThanTen();
        whoIsBorn();
        whoDigs();
        digsByNumbers();
        digsWhatIsDueFirst();
        digsSizeAtMost();
        keptAll();
        olderUpToNinetyNine();
        letGoUnlessBig();
        brokenWhenDue();
        letGoAheadOfBroken();
        stopAtTheFirst();
        noSuchStop();
        statesUpToStop();
        stateAtItsLargest();
        stateOfAnotherWhat();
        drawnFromNoneToSixty();
        drawnByThirtyTwoBits();
        drawnWithoutFolkOrWorks();
        drawnIfItMay();
        drawnEach();
        drawnAsState();
        firstKept();
        handThatDugMost();
        talker();
        manyOfEach();
        afterOfAnotherWhat();
    }

    /** FOLK 0 is the grandparent of FOLK 2, a child. */
    static String line(int strength, int childAge) {
        return "folk 70 " + strength + ";folk 40 0;folk " + childAge + " 0;child 1 0;child 2 1;";
    }

    /** FOLK 0 and 1 are the grandparents of 3 and 4, children. */
    private static String couple(int one, int two) {
        return "folk 70 " + one + ";folk 70 " + two + ";folk 40 0;folk 5 0;folk 5 0;"
            + "child 2 0;child 2 1;child 3 2;child 4 2;";
    }

    private static PromiseValley lived(String valley, String life, int stop) {
        PromiseValley x = new PromiseValley();
        Check.told(x, 0, valley, 0);
        Check.told(x, 1, life, 0);
        Check.due("stop of " + life, x.stop(0, 0), stop);
        return x;
    }

    private static void state(PromiseValley x, int n, int... whatAndWant) {
        for (int i = 0; i + 1 < whatAndWant.length; i += 2) {
            Check.due("state(0, 0, " + n + ", " + whatAndWant[i] + ")", x.state(0, 0, n, whatAndWant[i]), whatAndWant[i + 1]);
        }
    }

    private static void after(PromiseValley x, int... whatAndWant) {
        for (int i = 0; i + 1 < whatAndWant.length; i += 2) {
            Check.due("after(0, 0, " + whatAndWant[i] + ")", x.after(0, 0, whatAndWant[i]), whatAndWant[i + 1]);
        }
    }

    private static void lifeBegins() {
        Words.term(2, "A LIFE in a VALLEY begins in year 0, all FOLK living, nothing DUG, no PROMISES.");
        PromiseValley x = lived(Check.times(10, "folk 5 9;") + Check.times(6, "work 1 1;"), "", 0);
        state(x, 0, 0, 0, 1, 10, 2, 1023, 3, 0, 4, 0, 5, 0, 40, -2, 60, -2);
        for (int f = 0; f < 10; f++) {
            state(x, 0, 10 + f, 5, 20 + f, 0);
        }
        for (int w = 0; w < 6; w++) {
            state(x, 0, 30 + w, 0);
        }
        // whatever was asked of another life ahead of it
        x = lived(line(9, 5) + "work 5 5;", "promise 2 0 1;cover 2;born 1 1;year;die 0;", 5);
        state(x, 5, 0, 1, 1, 4, 2, 14, 4, 1, 5, 1, 30, 5);
        Check.told(x, 1, "", 1);
        Check.due("stop(0, 1)", x.stop(0, 1), 0);
        int[] want = {0, 3, 7, 0, 0, 0};
        for (int what = 0; what < 6; what++) {
            Check.due("state(0, 1, 0, " + what + ")", x.state(0, 1, 0, what), want[what]);
        }
        Check.due("nothing dug", x.state(0, 1, 0, 30), 0);
        Check.due("no promise", x.state(0, 1, 0, 40), -2);
    }

    private static void lifeInAnEmptyValley() {
        Words.term(2, "A DEED can't be, if there is no such FOLK, WORK, or it is not as said.");
        for (String deed : new String[] {"promise 0 0 1;", "born 0 0;", "cover 0;", "die 0;"}) {
            lived("", deed, 0);
        }
        PromiseValley x = lived("", Check.times(40, "year;"), 40);
        state(x, 40, 0, 40, 1, 0, 2, 0, 3, 0, 4, 0, 5, 0, 10, -2, 20, -2, 30, -2, 40, -2, 60, -2);
        for (int f = 3; f <= 9; f++) {
            lived(line(1, 5) + "work 1 1;", "promise " + f + " 0 1;", 0);
            lived(line(1, 5) + "work 1 1;", "born " + f + " 1;", 0);
            lived(line(1, 5) + "work 1 1;", "cover " + f + ";", 0);
            lived(line(1, 5) + "work 1 1;", "die " + f + ";", 0);
        }
        for (int w = 1; w <= 5; w++) {
            lived(line(1, 5) + "work 1 1;", "promise 2 " + w + " 1;", 0);
            lived(line(1, 5) + Check.times(w + 1, "work 1 1;"), "promise 2 " + w + " 1;", 1);
        }
    }

    private static void whoPromisesByAge() {
        Words.term(2, "promise: a FOLK that lives, of AGE below 10, not COVERED");
        lived(line(1, 0) + "work 9 1;", "promise 2 0 1;", 1);
        lived(line(1, 9) + "work 9 1;", "promise 2 0 1;", 1);
        lived(line(1, 10) + "work 9 1;", "promise 2 0 1;", 0);
        lived(line(1, 11) + "work 9 1;", "promise 2 0 1;", 0);
        lived(line(1, 9) + "work 9 1;", "year;promise 2 0 1;", 1);
        lived(line(1, 8) + "work 9 1;", "year;promise 2 0 1;year;promise 2 0 1;", 3);
    }

    private static void whoPromisesAlive() {
        Words.term(2, "die: a FOLK that lives does no more");
        lived(line(1, 5) + "work 9 1;", "die 2;promise 2 0 1;", 1);
        lived(line(1, 5) + "work 9 1;", "die 2;cover 2;", 1);
        lived(line(1, 5) + "work 9 1;", "die 2;die 2;", 1);
        lived(line(1, 5) + "work 9 1;", "die 1;born 1 1;", 1);
        lived(line(1, 5) + "work 9 1;", "die 0;die 1;promise 2 0 1;", 3);
    }

    private static void whoPromisesUncovered() {
        Words.term(2, "promise: a FOLK that lives, of AGE below 10, not COVERED");
        lived(line(1, 5) + "work 9 1;", "cover 2;promise 2 0 1;", 1);
        lived(couple(1, 1) + "work 9 1;", "cover 3;promise 4 0 1;", 2);
        // what was promised ahead of it stands
        PromiseValley x = lived(line(1, 5) + "work 9 1;", "promise 2 0 5;cover 2;year;", 3);
        state(x, 3, 30, 1, 40, OPEN);
    }

    private static void whatIsPromised() {
        Words.term(2, "a WORK that is not DONE");
        PromiseValley x = lived(line(4, 5) + "work 5 1;", "promise 2 0 9;year;promise 2 0 9;year;promise 2 0 9;", 4);
        state(x, 3, 30, 4, 5, 0);
        state(x, 4, 30, 5, 5, 1, 40, KEPT, 41, KEPT);
        lived(line(5, 5) + "work 5 1;", "promise 2 0 9;year;promise 2 0 9;", 2);
        lived(line(5, 5) + "work 5 1;work 5 1;", "promise 2 0 9;year;promise 2 1 9;", 3);
    }

    private static void twelvePromises() {
        Words.term(2, "fewer than 12 PROMISES there have been: one more, from 0 on");
        PromiseValley x = lived(line(0, 5) + "work 9 1;", Check.times(13, "promise 2 0 9;"), 12);
        state(x, 11, 4, 11, 50, OPEN, 51, -2, 70, 9, 71, -2, 20, 2047);
        state(x, 12, 4, 12, 51, OPEN, 52, -2, 71, 9, 72, -2, 20, 4095);
        // those that are over have been: KEPT, FREE, BROKEN, LET GO
        lived(line(9, 5) + "work 9 1;work 9 1;", Check.times(6, "promise 2 0 9;") + "year;" + Check.times(7, "promise 2 1 9;"), 13);
        lived("folk 5 1;work 9 1;", Check.times(13, "promise 0 0 9;"), 12);
        lived(line(0, 5) + "work 9 1;", Check.times(12, "promise 2 0 1;") + "year;promise 2 0 1;", 13);
        lived(couple(0, 0) + "work 9 1;", Check.times(12, "promise 3 0 1;") + "die 3;promise 4 0 1;", 13);
    }

    private static void openOrFree() {
        Words.term(2, "OPEN, or FREE, if none of the GRANDPARENTS lives");
        state(lived("folk 5 1;work 9 1;", "promise 0 0 1;", 1), 1, 40, FREE);
        // a parent alone is no grandparent
        state(lived("folk 40 1;folk 5 1;child 1 0;work 9 1;", "promise 1 0 1;", 1), 1, 40, FREE, 20, 0);
        state(lived(line(0, 5) + "work 9 1;", "promise 2 0 1;", 1), 1, 40, OPEN, 20, 1);
        state(lived(line(1, 5) + "work 9 1;", "die 0;promise 2 0 1;", 2), 2, 40, FREE, 20, 0);
        state(lived(line(1, 5) + "work 9 1;", "die 1;promise 2 0 1;", 2), 2, 40, OPEN, 20, 1);
        state(lived(couple(1, 1) + "work 9 1;", "die 0;promise 3 0 1;", 2), 2, 40, OPEN, 20, 0, 21, 1);
        state(lived(couple(1, 1) + "work 9 1;", "die 1;promise 3 0 1;", 2), 2, 40, OPEN, 20, 1, 21, 0);
        state(lived(couple(1, 1) + "work 9 1;", "die 1;die 0;promise 3 0 1;", 3), 3, 40, FREE);
        // it stays what it was when the last of them dies
        state(lived(couple(1, 1) + "work 9 1;", "promise 3 0 9;die 0;die 1;year;", 4), 4, 40, OPEN, 30, 0);
        // what is FREE is neither KEPT, LET GO nor BROKEN
        PromiseValley x = lived(line(9, 9) + "folk 9 0;work 9 1;", "promise 3 0 1;promise 2 0 1;year;die 3;", 4);
        state(x, 3, 40, FREE, 41, KEPT);
        state(x, 4, 40, FREE);
    }

    private static void dueInAsManyYears() {
        Words.term(2, "it is DUE in as many years");
        for (int years = 1; years <= 9; years++) {
            PromiseValley x = lived(line(0, 0) + "work 30 1;", "promise 2 0 " + years + ";year;year;promise 2 0 " + years + ";", 4);
            state(x, 1, 60, years);
            state(x, 4, 60, years, 61, years + 2);
        }
    }

    private static void whoIsCovered() {
        Words.term(2, "cover: a FOLK that lives, of AGE below 10");
        lived(line(1, 0), "cover 2;", 1);
        lived(line(1, 9), "cover 2;", 1);
        lived(line(1, 10), "cover 2;", 0);
        lived(line(1, 9), "year;cover 2;", 1);
        lived(line(1, 9), "cover 1;", 0);
        lived(line(1, 9), "cover 0;", 0);
        state(lived(Check.times(10, "folk 0 0;"), "cover 0;cover 9;cover 9;", 3), 3, 3, 513);
        state(lived(line(1, 9), "born 1 1;cover 3;", 2), 2, 3, 8);
    }

    private static void coveredTillTheNextYear() {
        Words.term(2, "it is COVERED till the next year");
        PromiseValley x = lived(line(1, 5) + "work 9 1;", "cover 2;year;promise 2 0 1;cover 2;promise 2 0 1;", 4);
        state(x, 0, 3, 0);
        state(x, 1, 3, 4);
        state(x, 2, 3, 0);
        state(x, 4, 3, 4);
    }

    private static void whoDies() {
        Words.term(2, "die: a FOLK that lives does no more");
        PromiseValley x = lived(Check.times(10, "folk 99 1;"), "die 0;die 9;die 0;", 2);
        state(x, 1, 2, 1022, 1, 10);
        state(x, 2, 2, 510, 1, 10, 10, 99, 19, 99);
        x = lived("folk 0 1;", "die 0;year;", 2);
        state(x, 2, 1, 1, 2, 0, 10, 0);
        // the dead dig no more, and owe nothing
        x = lived(line(3, 5) + "work 9 1;", "promise 2 0 9;year;die 0;year;", 4);
        state(x, 2, 20, 1, 30, 3, 10, 71);
        state(x, 3, 20, 0);
        state(x, 4, 20, 0, 30, 3, 40, OPEN, 10, 71);
    }

    private static void whatIsLetGoByDeath() {
        Words.term(2, "all OPEN PROMISES of it are LET GO.");
        PromiseValley x = lived(couple(1, 1) + "work 9 1;work 2 1;work 30 1;",
            "promise 3 1 1;promise 3 0 2;year;promise 3 0 1;promise 4 2 5;year;promise 3 0 9;promise 3 2 9;die 3;", 9);
        state(x, 8, 40, KEPT, 41, BROKEN, 42, BROKEN, 43, OPEN, 44, OPEN, 45, OPEN);
        state(x, 9, 40, KEPT, 41, BROKEN, 42, BROKEN, 43, OPEN, 44, LET_GO, 45, LET_GO, 20, 8);
        // of a BIG work too
        state(lived(line(1, 5) + "work 20 1;", "promise 2 0 9;die 2;", 2), 2, 40, LET_GO);
        state(lived("folk 5 1;work 9 1;", "promise 0 0 1;die 0;", 2), 2, 40, FREE);
    }

    private static void whoBears() {
        Words.term(2, "born: a PARENT that lives, of AGE 16 or more");
        lived("folk 16 1;", "born 0 1;", 1);
        lived("folk 15 1;", "born 0 1;", 0);
        lived("folk 0 1;", "born 0 1;", 0);
        lived("folk 99 1;", "born 0 1;", 1);
        lived("folk 15 1;", "year;born 0 1;", 2);
        lived("folk 16 1;", "die 0;born 0 1;", 1);
        lived("folk 16 1;", "born 0 1;born 1 1;", 1);
        lived("folk 16 1;", "born 0 1;" + Check.times(15, "year;") + "born 1 1;", 16);
        lived("folk 16 1;", "born 0 1;" + Check.times(16, "year;") + "born 1 1;", 18);
    }

    private static void fewerThanTen() {
        Words.term(2, "fewer than 10 FOLK: one more");
        lived("folk 40 1;" + Check.times(8, "folk 5 1;"), "born 0 1;born 0 1;", 1);
        lived("folk 40 1;" + Check.times(9, "folk 5 1;"), "born 0 1;", 0);
        // those that died are FOLK all the same
        lived("folk 40 1;" + Check.times(9, "folk 5 1;"), "die 9;born 0 1;", 1);
        PromiseValley x = lived("folk 40 1;", Check.times(10, "born 0 9;"), 9);
        state(x, 9, 1, 10, 2, 1023, 19, 0, 29, 0);
    }

    private static void whoIsBorn() {
        Words.term(2, "one more, of AGE 0, STRENGTH as told, this one PARENT.");
        for (int strength = 0; strength <= 9; strength += 9) {
            // 1 is born, bears 2 and lives to see 3, its grandchild, promise
            String life = "born 0 " + strength + ";" + Check.times(16, "year;") + "born 1 5;" + Check.times(16, "year;")
                + "born 2 5;promise 3 0 9;year;";
            PromiseValley x = lived("folk 16 7;work 30 1;", life, 37);
            state(x, 1, 1, 2, 2, 3, 11, 0, 10, 16);
            state(x, 36, 13, 0, 20, 0, 21, 1, 22, 0, 23, 0, 40, OPEN);
            state(x, 37, 30, strength);
        }
        // the parents of its one parent are bound, the parents of others not
        PromiseValley x = lived(couple(2, 3) + "folk 60 9;folk 41 0;child 6 5;work 30 1;", "born 2 0;promise 7 0 9;year;", 3);
        state(x, 2, 20, 1, 21, 1, 25, 0);
        state(x, 3, 30, 5);
        // a child of a root binds nobody
        state(lived("folk 40 1;work 9 1;", "born 0 0;promise 1 0 9;", 2), 2, 40, FREE);
    }

    private static void whoDigs() {
        Words.term(2, "each FOLK that lives and OWES any (is one of the GRANDPARENTS of the FOLK of an OPEN PROMISE) digs");
        // nothing is dug without a promise, by parents, or for what is FREE
        state(lived(line(9, 5) + "work 9 1;", "year;", 1), 1, 30, 0);
        state(lived("folk 70 0;folk 40 9;folk 5 9;child 1 0;child 2 1;work 9 1;", "promise 2 0 9;year;", 2), 2, 30, 0, 21, 0, 22, 0);
        state(lived("folk 70 9;folk 5 9;work 9 1;", "promise 1 0 9;year;", 2), 2, 30, 0);
        // a child that is a grandparent digs too
        state(lived("folk 9 4;folk 9 0;folk 9 0;child 1 0;child 2 1;work 20 1;", "promise 2 0 9;year;year;", 3), 3, 30, 8);
        // one that is a grandparent on both sides digs once a year
        state(lived("folk 70 4;folk 40 0;folk 40 0;folk 5 0;child 1 0;child 2 0;child 3 1;child 3 2;work 20 1;",
            "promise 3 0 9;year;", 2), 2, 30, 4);
        // nothing more is dug for what is BROKEN or LET GO
        state(lived(line(4, 5) + "work 9 1;", "promise 2 0 1;year;year;", 3), 3, 30, 4, 40, BROKEN, 20, 0);
        state(lived(line(4, 9) + "work 9 1;", "promise 2 0 9;year;year;", 3), 3, 30, 4, 40, LET_GO, 20, 0);
    }

    private static void digsByNumbers() {
        Words.term(2, "one behind the other, by numbers");
        // 0 does work 0, so 1 digs at work 1 in the same year
        PromiseValley x = lived(couple(5, 3) + "work 5 1;work 9 1;", "promise 3 0 1;promise 4 1 9;year;", 3);
        state(x, 3, 30, 5, 31, 3, 40, KEPT, 41, OPEN);
        // one less: both dig at work 0
        x = lived(couple(4, 3) + "work 5 1;work 9 1;", "promise 3 0 1;promise 4 1 9;year;", 3);
        state(x, 3, 30, 5, 31, 0, 40, KEPT, 41, OPEN);
        x = lived(couple(3, 5) + "work 5 1;work 9 1;", "promise 3 0 1;promise 4 1 9;year;", 3);
        state(x, 3, 30, 5, 31, 0, 40, KEPT);
    }

    private static void digsWhatIsDueFirst() {
        Words.term(2, "digs at the WORK of that one of these that is DUE first, of several the least");
        String works = "work 30 1;work 30 1;";
        state(lived(couple(2, 0) + works, "promise 3 0 5;promise 4 1 4;year;", 3), 3, 30, 0, 31, 2);
        state(lived(couple(2, 0) + works, "promise 3 0 5;promise 4 1 5;year;", 3), 3, 30, 2, 31, 0);
        state(lived(couple(2, 0) + works, "promise 3 1 5;promise 4 0 5;year;", 3), 3, 30, 0, 31, 2);
        state(lived(couple(2, 0) + works, "promise 3 0 5;promise 4 1 6;year;", 3), 3, 30, 2, 31, 0);
        // the year in which it is DUE counts: 3 and 2 in year 1 are one, 1 more is later
        state(lived(couple(2, 0) + works, "promise 3 0 3;year;promise 4 1 2;year;", 4), 4, 30, 4, 31, 0);
        state(lived(couple(2, 0) + works, "promise 3 0 4;year;promise 4 1 2;year;", 4), 4, 30, 2, 31, 2);
        // only what it owes itself
        state(lived(line(2, 5) + "folk 70 3;folk 40 0;folk 5 0;child 4 3;child 5 4;" + works,
            "promise 2 0 5;promise 5 1 4;year;", 3), 3, 30, 2, 31, 3);
    }

    private static void digsSizeAtMost() {
        Words.term(2, "it is DUG by STRENGTH more, SIZE at most; if that is SIZE, it is DONE");
        for (int size = 1; size <= 30; size++) {
            PromiseValley x = lived(line(9, 0) + "work " + size + " 1;", "promise 2 0 9;year;year;year;", 4);
            for (int year = 1; year <= 3; year++) {
                boolean done = 9 * year >= size;
                state(x, 1 + year, 30, Math.min(9 * year, size), 5, done ? 1 : 0, 40, done ? KEPT : OPEN, 20, done ? 0 : 1);
            }
        }
        state(lived(line(0, 0) + "work 1 1;", "promise 2 0 9;year;", 2), 2, 30, 0, 5, 0, 40, OPEN, 20, 1);
    }

    private static void keptAll() {
        Words.term(2, "it is DONE, and all OPEN PROMISES of it are KEPT.");
        // 5, of another house, is spared by the one that does it; what is BROKEN stays so
        String valley = line(9, 5) + "folk 70 1;folk 40 0;folk 5 0;child 4 3;child 5 4;work 10 1;work 30 1;";
        PromiseValley x = lived(valley, "promise 5 0 1;year;promise 5 0 9;promise 2 0 9;promise 2 1 9;year;", 6);
        state(x, 2, 40, BROKEN, 30, 1);
        state(x, 6, 40, BROKEN, 41, KEPT, 42, KEPT, 43, OPEN, 30, 10, 31, 0, 5, 1);
        // 0 does what both promised; 3 then owes no more
        x = lived(valley, "promise 2 0 9;year;promise 5 0 9;year;year;", 5);
        state(x, 2, 30, 9);
        state(x, 5, 30, 10, 40, KEPT, 41, KEPT, 23, 0);
    }

    private static void olderUpToNinetyNine() {
        Words.term(2, "Then all that live are a year older, 99 at most, it is the next year, nobody is COVERED");
        PromiseValley x = lived("folk 97 1;folk 98 1;folk 99 1;folk 0 1;folk 50 1;", "cover 3;year;die 4;year;cover 3;year;", 6);
        state(x, 2, 10, 98, 11, 99, 12, 99, 13, 1, 14, 51, 0, 1, 3, 0);
        state(x, 4, 10, 99, 11, 99, 12, 99, 13, 2, 14, 51, 0, 2);
        state(x, 6, 10, 99, 11, 99, 12, 99, 13, 3, 14, 51, 0, 3, 3, 0);
    }

    private static void letGoUnlessBig() {
        Words.term(2, "OPEN PROMISES of FOLK of AGE 10 or more are LET GO, if the WORK is not BIG");
        for (int bound = 1; bound <= 30; bound++) {
            PromiseValley x = lived(line(0, 8) + "work 15 1;bound " + bound + ";", "promise 2 0 9;year;year;", 3);
            state(x, 2, 12, 9, 40, OPEN);
            state(x, 3, 12, 10, 40, 15 >= bound ? OPEN : LET_GO);
        }
        // 20 at first
        state(lived(line(0, 9) + "work 20 1;", "promise 2 0 9;year;", 2), 2, 40, OPEN);
        state(lived(line(0, 9) + "work 19 1;", "promise 2 0 9;year;", 2), 2, 40, LET_GO);
        // the year's digging comes ahead of it
        state(lived(line(9, 9) + "work 9 1;", "promise 2 0 9;year;", 2), 2, 40, KEPT);
    }

    private static void brokenWhenDue() {
        Words.term(2, "others that are DUE in this year or ahead of it are BROKEN.");
        for (int years = 1; years <= 9; years++) {
            PromiseValley x = lived(line(0, 0) + "work 30 1;", "promise 2 0 " + years + ";" + Check.times(9, "year;"), 10);
            for (int year = 0; year <= 9; year++) {
                state(x, 1 + year, 40, year < years ? OPEN : BROKEN);
            }
        }
        // a BIG work's is BROKEN of a grown one too; done in its last year it is KEPT
        state(lived(line(0, 9) + "work 20 1;", "promise 2 0 1;year;", 2), 2, 40, BROKEN);
        state(lived(line(5, 0) + "work 15 1;", "promise 2 0 3;year;year;year;", 4), 4, 40, KEPT);
        state(lived(line(5, 0) + "work 16 1;", "promise 2 0 3;year;year;year;", 4), 4, 40, BROKEN, 30, 15);
    }

    private static void letGoAheadOfBroken() {
        Words.term(2, "are LET GO, if the WORK is not BIG; others that are DUE in this year or ahead of it are BROKEN.");
        state(lived(line(0, 9) + "work 19 1;", "promise 2 0 1;year;", 2), 2, 40, LET_GO);
        state(lived(line(0, 8) + "work 19 1;", "promise 2 0 1;year;year;", 3), 3, 40, BROKEN);
        state(lived(line(0, 8) + "work 19 1;", "promise 2 0 2;year;year;", 3), 3, 40, LET_GO);
    }

    private static void stopAtTheFirst() {
        Words.term(2, "STOP: the first DEED that can't be, else how many there are.");
        lived(line(1, 5), "", 0);
        lived(line(1, 5), "die 9;", 0);
        lived(line(1, 5), "die 9;year;year;", 0);
        lived(line(1, 5), "year;die 9;year;", 1);
        lived(line(1, 5), "year;year;die 9;", 2);
        lived(line(1, 5), Check.times(40, "year;"), 40);
        lived(line(1, 5), Check.times(39, "year;") + "die 9;", 39);
    }

    private static void noSuchStop() {
        Words.promise(8, "NONE: there is none such (of either).");
        PromiseValley x = new PromiseValley();
        Check.due("stop(0, 0) of nothing", x.stop(0, 0), -1);
        Check.told(x, 1, "year;", 0);
        Check.due("stop(0, 0) without a valley", x.stop(0, 0), -1);
        x = new PromiseValley();
        Check.told(x, 0, "", 0);
        Check.due("stop(0, 0) without a life", x.stop(0, 0), -1);
        Check.told(x, 1, "year;", 0);
        Check.told(x, 1, "die 0;", 1);
        Check.due("stop(0, 0)", x.stop(0, 0), 1);
        Check.due("stop(0, 1)", x.stop(0, 1), 0);
        Check.told(x, 0, "folk 1 1;", 1);
        Check.due("stop(1, 1)", x.stop(1, 1), 1);
        for (int none : new int[] {MIN, -2, -1, 2, 3, MAX}) {
            Check.due("stop(" + none + ", 0)", x.stop(none, 0), -1);
            Check.due("stop(0, " + none + ")", x.stop(0, none), -1);
            Check.due("stop(" + none + ", " + none + ")", x.stop(none, none), -1);
        }
    }

    private static void statesUpToStop() {
        Words.promise(9, "-2: there is no such STATE, or for another what.");
        PromiseValley x = lived(line(1, 5), "year;year;die 9;year;", 2);
        Check.told(x, 0, "", 1);
        Check.told(x, 1, "", 1);
        state(x, 0, 0, 0);
        state(x, 2, 0, 2);
        for (int n : new int[] {MIN, -2, -1, 3, 4, 5, 40, 41, MAX}) {
            state(x, n, 0, -2, 1, -2, 10, -2);
        }
        Check.due("state(0, 1, 0, 0)", x.state(0, 1, 0, 0), 0);
        Check.due("state(0, 1, 1, 0)", x.state(0, 1, 1, 0), -2);
        Check.due("state(1, 0, 2, 0)", x.state(1, 0, 2, 0), 2);
        for (int none : new int[] {MIN, -2, -1, 2, 3, MAX}) {
            Check.due("state(" + none + ", 0, 0, 0)", x.state(none, 0, 0, 0), -2);
            Check.due("state(0, " + none + ", 0, 0)", x.state(0, none, 0, 0), -2);
        }
    }

    private static void stateAtItsLargest() {
        Words.promise(9, "10 + f: AGE of a FOLK (as it died), 20 + f: whom it OWES (PROMISES, bits; 0 if it does not live), "
            + "30 + w: how far a WORK is DUG, 40 + k: of a PROMISE 0 OPEN, 1 KEPT, 2 LET GO, 3 BROKEN, 4 FREE, "
            + "60 + k: the year it is DUE.");
        String valley = "folk 70 5;folk 40 0;" + Check.times(8, "folk 5 0;") + "child 1 0;child 2 1;" + Check.times(6, "work 30 1;");
        PromiseValley x = lived(valley, Check.times(11, "promise 2 5 9;") + "promise 2 0 8;year;", 13);
        for (int what = -3; what < 80; what++) {
            int due = -2;
            if (what >= 0 && what < 6) {
                due = new int[] {1, 10, 1023, 0, 12, 0}[what];
            } else if (what >= 10 && what < 20) {
                due = what == 10 ? 71 : what == 11 ? 41 : 6;
            } else if (what >= 20 && what < 30) {
                due = what == 20 ? 4095 : 0;
            } else if (what >= 30 && what < 36) {
                due = what == 30 ? 5 : 0;
            } else if (what >= 40 && what < 52) {
                due = OPEN;
            } else if (what >= 60 && what < 72) {
                due = what == 71 ? 8 : 9;
            }
            state(x, 13, what, due);
        }
        x = lived(valley, "promise 2 0 9;year;year;die 0;year;", 5);
        state(x, 3, 10, 72, 20, 1);
        state(x, 5, 10, 72, 20, 0, 30, 10);
    }

    private static void stateOfAnotherWhat() {
        Words.promise(9, "or for another what.");
        PromiseValley x = lived(line(1, 5) + "work 9 1;", "promise 2 0 1;", 1);
        int[] none = {MIN, MIN + 9, MIN + 10, MIN + 39, MIN + 40, MIN + 59, MIN + 60, -10, -1, 6, 9, 13, 19, 23, 29, 31, 39, 41, 59,
            61, 72, 80, 100, MAX - 1, MAX};
        for (int what : none) {
            state(x, 1, what, -2);
            Check.due("drawn(0, 0, 0, " + what + ")", x.drawn(0, 0, 0, what), -2);
        }
        state(x, 1, 12, 5, 22, 0, 30, 0, 40, OPEN, 60, 1);
        // what there was in a former life is not there in this one
        Check.told(x, 1, "year;", 1);
        Check.due("state(0, 1, 1, 40)", x.state(0, 1, 1, 40), -2);
        Check.due("state(0, 1, 1, 60)", x.state(0, 1, 1, 60), -2);
    }

    /** Of an empty valley each draw is one number below 8, a year from 5 on. */
    private static int yearsDrawn(int seed, int n) {
        long x = seed & 0xffffffffL;
        int years = 0;
        for (int i = 0; i < n; i++) {
            x = (x * 1103515245L + 12345L) & 0xffffffffL;
            years += (x >> 16) % 8 >= 5 ? 1 : 0;
        }
        return years;
    }

    private static void drawnFromNoneToSixty() {
        Words.promise(20, "-2: there is none such, another n, or for another what.");
        PromiseValley x = new PromiseValley();
        Check.due("drawn of nothing", x.drawn(0, 0, 0, 0), -2);
        Check.told(x, 0, "", 0);
        for (int n = 0; n <= 60; n++) {
            Check.due("drawn(0, 1, " + n + ", 0)", x.drawn(0, 1, n, 0), yearsDrawn(1, n));
        }
        for (int n : new int[] {MIN, -2, -1, 61, 62, MAX}) {
            Check.due("drawn(0, 1, " + n + ", 0)", x.drawn(0, 1, n, 0), -2);
        }
        for (int valley : new int[] {MIN, -2, -1, 1, 2, MAX}) {
            Check.due("drawn(" + valley + ", 1, 1, 0)", x.drawn(valley, 1, 1, 0), -2);
        }
        for (int what : new int[] {MIN, -1, 6, 10, 20, 30, 40, 60, MAX}) {
            Check.due("drawn(0, 1, 1, " + what + ")", x.drawn(0, 1, 1, what), -2);
        }
    }

    private static void drawnByThirtyTwoBits() {
        Words.term(4, "x becomes x * 1103515245 + 12345 (of 32 bits), it is x shifted right by 16 without sign, remainder by n");
        PromiseValley x = new PromiseValley();
        Check.told(x, 0, "", 0);
        for (int seed : new int[] {MIN, MIN + 1, -65536, -2, -1, 0, 1, 2, 65535, 65536, 0x40000000, MAX - 1, MAX}) {
            for (int n : new int[] {1, 2, 3, 30, 59, 60}) {
                Check.due("drawn(0, " + seed + ", " + n + ", 0)", x.drawn(0, seed, n, 0), yearsDrawn(seed, n));
            }
        }
        // shifted with its sign, a number of the highest bit would be no year
        int high = 0;
        for (int seed = 0; seed < 200; seed++) {
            boolean year = yearsDrawn(seed, 1) == 1;
            high += year && seed * 1103515245 + 12345 < 0 ? 1 : 0;
            Check.due("drawn(0, " + seed + ", 1, 0)", x.drawn(0, seed, 1, 0), year ? 1 : 0);
        }
        Check.due("years by numbers of the highest bit are among them", high > 0, true);
    }

    private static void drawnWithoutFolkOrWorks() {
        Words.term(4, "(Without FOLK 0 to 4, without WORKS 0, 1 draw no more, nothing is done.)");
        PromiseValley x = new PromiseValley();
        Check.told(x, 0, Check.times(6, "work 1 1;"), 0);
        // two FOLK that may neither bear nor be covered: a die, a cover, a born draw more all the same
        Check.told(x, 0, "folk 12 1;folk 12 1;", 1);
        for (int seed = 0; seed < 100; seed++) {
            Check.due("drawn without folk by " + seed, x.drawn(0, seed, 60, 0), yearsDrawn(seed, 60));
            Check.due("drawn without works by " + seed, x.drawn(1, seed, 6, 0), yearsWithoutWorks(seed, 6));
        }
        Check.due("no folk came", x.drawn(0, 7, 60, 1), 0);
        Check.due("no promise came", x.drawn(1, 7, 60, 4), 0);
    }

    /** 0 and 1 draw no more, 2 and 3 a FOLK, 4 a FOLK and a number below 10. */
    private static int yearsWithoutWorks(int seed, int n) {
        int x = seed;
        int years = 0;
        for (int i = 0; i < n; i++) {
            x = x * 1103515245 + 12345;
            int kind = (x >>> 16) % 8;
            for (int more = 0; more < (kind < 2 || kind > 4 ? 0 : kind < 4 ? 1 : 2); more++) {
                x = x * 1103515245 + 12345;
            }
            years += kind >= 5 ? 1 : 0;
        }
        return years;
    }

    private static void drawnIfItMay() {
        Words.term(4, "5 to 7: year; each, if it may.");
        PromiseValley x = new PromiseValley();
        // nobody may promise, be covered or bear; each may die once
        Check.told(x, 0, "folk 12 1;folk 12 1;work 9 1;", 0);
        int deaths = 0;
        for (int seed = 0; seed < 60; seed++) {
            Check.due("promises by " + seed, x.drawn(0, seed, 3, 4), 0);
            Check.due("covered by " + seed, x.drawn(0, seed, 3, 3), 0);
            Check.due("folk by " + seed, x.drawn(0, seed, 3, 1), 2);
            int living = x.drawn(0, seed, 60, 2);
            deaths += living == 0 ? 1 : 0;
        }
        Check.due("both die in most drawn lives", deaths > 30, true);
        // at most 12 promises, at most 10 folk
        x = new PromiseValley();
        Check.told(x, 0, Check.times(9, "folk 0 0;") + "folk 50 0;work 30 1;", 0);
        Check.told(x, 0, Check.times(3, "folk 99 0;"), 1);
        int promises = 0;
        int folk = 0;
        for (int seed = 0; seed < 100; seed++) {
            promises = Math.max(promises, x.drawn(0, seed, 60, 4));
            folk = Math.max(folk, x.drawn(1, seed, 60, 1));
            Check.due("no eleventh folk by " + seed, x.drawn(0, seed, 60, 1), 10);
        }
        Check.due("promises at most", promises <= 12 && promises > 8, true);
        Check.due("folk at most", folk <= 10 && folk > 6, true);
    }

    /** What one draw does, by the first seed with which it is that one. */
    private static void drawnEach() {
        Words.term(4, "a number below 8: 0, 1: promise, a FOLK, below FOLK there are, a WORK, below WORKS, "
            + "1 more than a number below 9; 2: cover, 3: die, a FOLK; 4: born, a FOLK, a number below 10; 5 to 7: year");
        PromiseValley x = new PromiseValley();
        Check.told(x, 0, "folk 9 1;work 9 1;", 0);
        Check.told(x, 0, "folk 16 1;", 1);
        for (int kind = 0; kind < 8; kind++) {
            int seed = 0;
            while (((seed * 1103515245 + 12345) >>> 16) % 8 != kind) {
                seed++;
            }
            Check.due("promises by " + kind, x.drawn(0, seed, 1, 4), kind < 2 ? 1 : 0);
            Check.due("covered by " + kind, x.drawn(0, seed, 1, 3), kind == 2 ? 1 : 0);
            Check.due("living by " + kind, x.drawn(0, seed, 1, 2), kind == 3 ? 0 : 1);
            Check.due("folk by " + kind, x.drawn(1, seed, 1, 1), kind == 4 ? 2 : 1);
            Check.due("year by " + kind, x.drawn(0, seed, 1, 0), kind >= 5 ? 1 : 0);
        }
        // a seed so rare that the grandchild of one that was born promises, and that one digs by its STRENGTH
        x = new PromiseValley();
        Check.told(x, 0, "folk 40 0;folk 40 0;folk 40 0;folk 40 0;work 30 1;", 0);
        Check.due("years", x.drawn(0, -1020153835, 60, 0), 33);
        Check.due("dug", x.drawn(0, -1020153835, 60, 30), 2);
    }

    private static void drawnAsState() {
        Words.promise(20, "DRAWN, n times, what as state().");
        PromiseValley x = new PromiseValley();
        String valley = line(4, 5) + "work 9 1;work 30 2;";
        Check.told(x, 0, valley, 0);
        // none drawn is the beginning
        int[] want = {0, 3, 7, 0, 0, 0};
        for (int what = 0; what < 6; what++) {
            Check.due("drawn(0, -7, 0, " + what + ")", x.drawn(0, -7, 0, what), want[what]);
        }
        Check.due("age", x.drawn(0, -7, 0, 12), 5);
        Check.due("no fourth folk", x.drawn(0, -7, 0, 13), -2);
        Check.due("owes", x.drawn(0, -7, 0, 20), 0);
        Check.due("dug", x.drawn(0, -7, 0, 31), 0);
        Check.due("no third work", x.drawn(0, -7, 0, 32), -2);
        Check.due("no promise", x.drawn(0, -7, 0, 40), -2);
        Check.due("no promise is due", x.drawn(0, -7, 0, 60), -2);
        // a promise of the child is drawn by some seeds: 1 to 9 years
        int least = 99;
        int most = 0;
        for (int seed = 0; seed < 300; seed++) {
            int due = x.drawn(0, seed, 1, 60);
            least = due == -2 ? least : Math.min(least, due);
            most = Math.max(most, due);
        }
        Check.due("for the fewest years", least, 1);
        Check.due("for the most years", most, 9);
    }

    private static void firstKept() {
        Words.term(5, "FIRST: the DEED (from 0 on) by which a PROMISE was first KEPT (none)");
        after(lived(line(5, 5) + "work 5 1;", "", 0), 0, -1);
        after(lived(line(5, 5) + "work 5 1;", "promise 2 0 9;", 1), 0, -1);
        after(lived(line(5, 5) + "work 5 1;", "promise 2 0 9;year;", 2), 0, 1);
        after(lived(line(5, 5) + "work 5 1;", "promise 2 0 9;year;year;", 3), 0, 1);
        after(lived(line(5, 5) + "work 6 1;", "promise 2 0 9;year;year;", 3), 0, 2);
        after(lived(line(5, 5) + "work 6 1;", "promise 2 0 1;year;year;", 3), 0, -1);
        // not behind STOP; by the last of 40
        after(lived(line(5, 5) + "work 5 1;", "promise 2 0 9;die 9;year;", 1), 0, -1);
        String born = "born 1 0;" + Check.times(37, "cover 2;");
        after(lived(line(5, 5) + "work 5 1;", born + "promise 3 0 9;year;", 40), 0, 39);
        // the first of two
        after(lived(line(5, 5) + "work 5 1;work 5 1;", "promise 2 0 9;year;promise 2 1 9;year;", 4), 0, 1);
    }

    private static void handThatDugMost() {
        Words.term(5, "HAND: the FOLK that dug most in all (STRENGTH each time, as far as it was needed), of several the least (none)");
        String life = "promise 3 0 9;year;";
        after(lived(couple(5, 5) + "work 30 1;", "", 0), 1, -1);
        after(lived(couple(5, 5) + "work 30 1;", "year;", 1), 1, -1);
        after(lived(couple(5, 5) + "work 30 1;", life, 2), 1, 0);
        after(lived(couple(5, 6) + "work 30 1;", life, 2), 1, 1);
        after(lived(couple(6, 5) + "work 30 1;", life, 2), 1, 0);
        // needed of 1: 3 of 4, as many as 0 dug; then 4
        after(lived(couple(3, 4) + "work 6 1;", life, 2), 1, 0);
        after(lived(couple(3, 4) + "work 7 1;", life, 2), 1, 1);
        after(lived(couple(3, 9) + "work 5 1;", life, 2), 1, 0);
        // in all years together, and by one that died since
        after(lived(couple(5, 4) + "work 30 1;", "promise 3 0 9;year;die 0;year;", 4), 1, 1);
        after(lived(couple(9, 4) + "work 30 1;", "promise 3 0 9;year;die 0;year;", 4), 1, 0);
        after(lived(couple(8, 4) + "work 30 1;", "promise 3 0 9;year;die 0;year;", 4), 1, 0);
        // in this life alone
        PromiseValley x = lived(couple(9, 4) + "work 30 1;", life, 2);
        after(x, 1, 0);
        Check.told(x, 1, "die 0;promise 3 0 9;year;", 1);
        Check.due("after(0, 1, 1)", x.after(0, 1, 1), 1);
        after(x, 1, 0);
        // nobody digs anything
        after(lived(couple(0, 0) + "work 30 1;", life, 2), 1, -1);
        after(lived(couple(0, 1) + "work 30 1;", life, 2), 1, 1);
        after(lived("folk 5 9;work 9 1;", "promise 0 0 9;year;", 2), 1, -1);
    }

    private static void talker() {
        Words.term(5, "TALKER: the FOLK that made most PROMISES, of several the least (none).");
        after(lived(couple(1, 1) + "work 9 1;", "", 0), 2, -1);
        after(lived(couple(1, 1) + "work 9 1;", "cover 3;year;", 2), 2, -1);
        after(lived(couple(1, 1) + "work 9 1;", "promise 4 0 1;", 1), 2, 4);
        after(lived(couple(1, 1) + "work 9 1;", "promise 4 0 1;promise 3 0 1;", 2), 2, 3);
        after(lived(couple(1, 1) + "work 9 1;", "promise 3 0 1;promise 4 0 1;promise 4 0 1;", 3), 2, 4);
        // whatever came of them; not behind STOP
        after(lived("folk 5 1;work 9 1;", "promise 0 0 1;die 0;", 2), 2, 0);
        after(lived(couple(1, 1) + "work 9 1;", "promise 4 0 1;die 9;promise 3 0 1;promise 3 0 1;", 1), 2, 4);
        after(lived(couple(0, 0) + "work 9 1;", "promise 3 0 1;year;promise 3 0 1;promise 4 0 9;", 4), 2, 3);
    }

    private static void manyOfEach() {
        Words.term(5, "MANY: how many PROMISES are OPEN, KEPT, LET GO, BROKEN, FREE");
        after(lived("", "", 0), 10, 0, 11, 0, 12, 0, 13, 0, 14, 0);
        after(lived("folk 5 1;work 9 1;", Check.times(12, "promise 0 0 1;") + "year;", 13), 10, 0, 11, 0, 12, 0, 13, 0, 14, 12);
        String promises = Check.times(12, "promise 2 0 1;");
        after(lived(line(0, 5) + "work 9 1;", promises, 12), 10, 12, 11, 0, 12, 0, 13, 0, 14, 0);
        after(lived(line(9, 5) + "work 9 1;", promises + "year;", 13), 10, 0, 11, 12, 12, 0, 13, 0, 14, 0);
        after(lived(line(0, 9) + "work 9 1;", promises + "year;", 13), 10, 0, 11, 0, 12, 12, 13, 0, 14, 0);
        after(lived(line(0, 5) + "work 9 1;", promises + "year;", 13), 10, 0, 11, 0, 12, 0, 13, 12, 14, 0);
        // up to STOP alone
        after(lived(line(0, 5) + "work 9 1;", "promise 2 0 1;die 9;year;", 1), 10, 1, 13, 0);
    }

    private static void afterOfAnotherWhat() {
        Words.promise(30, "-2: there is none such (of either), or for another what.");
        PromiseValley x = lived(line(5, 5) + "work 5 1;", "promise 2 0 9;year;", 2);
        Check.told(x, 0, "", 1);
        Check.told(x, 1, "", 1);
        for (int what : new int[] {MIN, MIN + 9, MIN + 14, -10, -2, -1, 3, 4, 9, 15, 16, 20, MAX}) {
            after(x, what, -2);
        }
        for (int none : new int[] {MIN, -2, -1, 2, 3, MAX}) {
            for (int what : new int[] {0, 2, 10, 14}) {
                Check.due("after(" + none + ", 0, " + what + ")", x.after(none, 0, what), -2);
                Check.due("after(0, " + none + ", " + what + ")", x.after(0, none, what), -2);
            }
        }
        Check.due("after(1, 1, 0)", x.after(1, 1, 0), -1);
        Check.due("after(1, 0, 10)", x.after(1, 0, 10), 0);
        Check.due("after(0, 1, 2)", x.after(0, 1, 2), -1);
    }
}
