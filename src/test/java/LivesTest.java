/** Promises 8, 9, 20 and 30: lives in a valley, by what is told and by a seed. */
public final class LivesTest {
    /** 4 and 5 are children of 2, whose parents are 0 and 1; work 0 is big, work 1 is not. */
    private static final String VALLEY = "folk 70 5;folk 68 6;folk 40 3;folk 41 4;folk 8 1;folk 9 2;"
        + "child 2 0;child 2 1;child 4 2;child 4 3;child 5 2;work 20 10;work 7 4;";

    private LivesTest() {
    }

    public static void main(String[] args) {
        twoPromises();
        bigOrNot();
        whoDies();
        whoIsCovered();
        whoIsBorn();
        whoCanPromise();
        whatIsDueFirst();
        agesAndYears();
        noSuchState();
        drawnLives();
        lookedBackOn();
        Check.finish();
    }

    private static PromiseValley lived(String valley, String life, int stop) {
        PromiseValley x = new PromiseValley();
        Check.told(x, 0, valley, 0);
        Check.told(x, 1, life, 0);
        Check.due("stop of " + life, x.stop(0, 0), stop);
        return x;
    }

    private static void state(PromiseValley x, int n, int... whatAndWant) {
        for (int i = 0; i + 1 < whatAndWant.length; i += 2) {
            Check.due("state(0, 0, " + n + ", " + whatAndWant[i] + ")", x.state(0, 0, n, whatAndWant[i]), whatAndWant[i + 1]);
        }
    }

    private static void twoPromises() {
        PromiseValley x = lived(VALLEY, "promise 5 1 3;promise 4 0 2;year;year;", 4);
        state(x, 0, 0, 0, 1, 6, 2, 63, 3, 0, 4, 0, 5, 0, 10, 70, 15, 9, 16, -2, 20, 0, 30, 0, 31, 0, 32, -2, 40, -2, 60, -2);
        state(x, 1, 4, 1, 20, 1, 21, 1, 22, 0, 40, 0, 60, 3, 41, -2, 61, -2);
        state(x, 2, 4, 2, 20, 3, 21, 3, 24, 0, 61, 2);
        state(x, 3, 0, 1, 10, 71, 15, 10, 14, 9, 30, 11, 31, 0, 40, 2, 41, 0, 20, 2, 5, 0);
        state(x, 4, 0, 2, 30, 20, 5, 1, 41, 1, 20, 0, 40, 2);
    }

    private static void bigOrNot() {
        PromiseValley x = lived(VALLEY, "promise 5 0 2;year;year;", 3);
        state(x, 2, 15, 10, 40, 0, 30, 11);
        state(x, 3, 40, 1, 30, 20);
        x = lived(VALLEY + "bound 21;", "promise 5 0 2;year;year;", 3);
        state(x, 2, 40, 2, 30, 11);
        state(x, 3, 40, 2, 30, 11);
        x = lived(VALLEY, "promise 5 0 1;year;year;", 3);
        state(x, 2, 40, 3, 30, 11);
        state(x, 3, 40, 3, 30, 11);
        // let go comes ahead of broken
        x = lived(VALLEY + "bound 21;", "promise 5 0 1;year;", 2);
        state(x, 2, 40, 2);
        // a promise of a child that is none yet is broken in the year it is due
        x = lived(VALLEY + "bound 21;", "promise 4 0 1;year;", 2);
        state(x, 2, 40, 3);
    }

    private static void whoDies() {
        PromiseValley x = lived(VALLEY, "promise 4 0 9;promise 5 0 9;die 4;die 4;", 3);
        state(x, 3, 2, 47, 40, 2, 41, 0, 20, 2);
        x = lived(VALLEY, "die 0;promise 4 0 9;die 1;promise 4 0 9;year;", 5);
        state(x, 2, 20, 0, 21, 1, 40, 0);
        state(x, 3, 21, 0, 40, 0);
        state(x, 4, 40, 0, 41, 4);
        state(x, 5, 30, 0, 40, 0, 41, 4, 10, 70, 11, 68, 12, 41);
        x = lived(VALLEY, "die 0;promise 4 0 9;year;", 3);
        state(x, 3, 30, 6);
        // what is free stays so, beyond the year and beyond childhood
        x = lived("folk 9 1;work 5 1;", "promise 0 0 1;year;", 2);
        state(x, 1, 40, 4);
        state(x, 2, 40, 4, 10, 10);
        lived(VALLEY, "die 6;", 0);
    }

    private static void whoIsCovered() {
        PromiseValley x = lived(VALLEY, "cover 4;cover 4;cover 5;promise 4 0 9;", 3);
        state(x, 3, 3, 48);
        x = lived(VALLEY, "cover 4;year;promise 4 0 9;", 3);
        state(x, 2, 3, 0);
        lived(VALLEY, "cover 3;", 0);
        lived(VALLEY, "cover 6;", 0);
        lived(VALLEY, "die 4;cover 4;", 1);
        lived(VALLEY, "year;cover 5;", 1);
        x = lived(VALLEY, "cover 4;promise 5 0 9;die 4;", 3);
        state(x, 3, 3, 16, 2, 47);
    }

    private static void whoIsBorn() {
        PromiseValley x = lived(VALLEY, "born 2 7;promise 6 1 1;year;", 3);
        state(x, 1, 1, 7, 2, 127, 16, 0);
        state(x, 2, 20, 1, 21, 1);
        state(x, 3, 31, 7, 40, 1, 16, 1);
        // the strength told: the grandchild's promise is dug at by the one that was born
        x = lived("folk 50 1;work 30 1;", "born 0 7;" + Check.times(16, "year;") + "born 1 2;promise 2 0 9;year;", 20);
        state(x, 20, 30, 1);
        x = lived("folk 50 1;work 30 1;", "born 0 7;" + Check.times(16, "year;") + "born 1 2;" + Check.times(16, "year;")
            + "born 2 3;promise 3 0 9;year;", 37);
        state(x, 37, 30, 7, 1, 4);
        lived(VALLEY, "born 4 1;", 0);
        lived(VALLEY, "born 6 1;", 0);
        lived(VALLEY, "die 2;born 2 1;", 1);
        lived(VALLEY, Check.times(5, "born 2 1;"), 4);
        lived(VALLEY, "die 5;" + Check.times(5, "born 2 1;"), 5);
        lived("folk 15 1;", "born 0 1;", 0);
        lived("folk 15 1;", "year;born 0 1;", 2);
    }

    private static void whoCanPromise() {
        lived(VALLEY, "promise 3 0 1;", 0);
        lived(VALLEY, "promise 6 0 1;", 0);
        lived(VALLEY, "promise 4 2 1;", 0);
        lived(VALLEY, "die 4;promise 4 0 1;", 1);
        lived(VALLEY, "year;promise 5 0 1;", 1);
        lived(VALLEY, Check.times(13, "promise 4 0 9;"), 12);
        lived(VALLEY, "promise 4 1 9;year;promise 4 1 9;", 2);
        lived(VALLEY, "promise 4 0 9;year;promise 4 0 9;year;promise 4 0 9;", 4);
        lived("", "year;", 1);
        lived("", "", 0);
    }

    private static void whatIsDueFirst() {
        // due in one year, the least: work 1 is done, work 0 not begun
        PromiseValley x = lived(VALLEY, "promise 4 1 5;promise 5 0 5;year;", 3);
        state(x, 3, 31, 7, 30, 0, 40, 1, 41, 0);
        x = lived(VALLEY, "promise 5 0 5;promise 4 1 5;year;", 3);
        state(x, 3, 30, 11, 31, 0);
        // the year counts, not for how many years: both are due in year 3; 4 is grown then
        x = lived(VALLEY, "promise 4 0 3;year;promise 4 1 2;year;", 4);
        state(x, 4, 60, 3, 61, 3, 30, 20, 31, 0, 40, 1, 41, 2);
        // 0 does work 1, so 1 owes the next already in this year; all promises of it are kept
        x = lived(VALLEY + "work 5 1;", "promise 4 2 1;promise 4 0 5;promise 5 2 9;year;", 4);
        state(x, 4, 32, 5, 30, 6, 40, 1, 42, 1, 41, 0, 5, 4);
    }

    private static void agesAndYears() {
        PromiseValley x = lived("folk 98 1;folk 99 1;", Check.times(40, "year;"), 40);
        state(x, 1, 10, 99, 11, 99);
        state(x, 40, 0, 40, 10, 99, 11, 99);
        x = lived("folk 20 1;folk 30 1;", "year;die 0;year;", 3);
        state(x, 3, 10, 21, 11, 32, 2, 2);
    }

    private static void noSuchState() {
        PromiseValley x = lived(VALLEY, "year;die 9;year;", 1);
        state(x, 1, 0, 1);
        state(x, 2, 0, -2);
        state(x, 3, 0, -2);
        state(x, 4, 0, -2);
        state(x, -1, 0, -2);
        state(x, 0, 6, -2, 9, -2, -1, -2, 16, -2, 19, -2, 26, -2, 36, -2, 39, -2, 52, -2, 59, -2, 72, -2, 80, -2);
        Check.due("state(1, 0, 0, 0)", x.state(1, 0, 0, 0), -2);
        Check.due("state(-1, 0, 0, 0)", x.state(-1, 0, 0, 0), -2);
        Check.due("state(0, 1, 0, 0)", x.state(0, 1, 0, 0), -2);
        Check.due("state(0, -1, 0, 0)", x.state(0, -1, 0, 0), -2);
        Check.due("stop(1, 0)", x.stop(1, 0), -1);
        Check.due("stop(0, 1)", x.stop(0, 1), -1);
        Check.due("stop(-1, -1)", x.stop(-1, -1), -1);
    }

    private static void drawn(PromiseValley x, int valley, int seed, int n, int... whatAndWant) {
        for (int i = 0; i + 1 < whatAndWant.length; i += 2) {
            String call = "drawn(" + valley + ", " + seed + ", " + n + ", " + whatAndWant[i] + ")";
            Check.due(call, x.drawn(valley, seed, n, whatAndWant[i]), whatAndWant[i + 1]);
        }
    }

    private static void drawnLives() {
        PromiseValley x = new PromiseValley();
        Check.told(x, 0, VALLEY, 0);
        Check.told(x, 0, "", 1);
        // first numbers below 8 by seed: 28, 18: promise, 8: cover, 3: die, 7: born, 5: year
        drawn(x, 0, 28, 0, 0, 0, 4, 0);
        drawn(x, 0, 28, 1, 0, 0, 4, 1, 40, 0, 60, 2, 20, 1);
        drawn(x, 0, 28, 2, 0, 1, 30, 11);
        drawn(x, 0, 18, 1, 4, 1, 60, 2);
        drawn(x, 0, 23, 1, 4, 0);
        drawn(x, 0, 8, 1, 3, 16);
        drawn(x, 0, 3, 1, 2, 55);
        drawn(x, 0, 7, 1, 1, 7);
        drawn(x, 0, 2, 1, 1, 6);
        drawn(x, 0, 5, 1, 0, 1);
        // without folk each draws one number: 0 4 4 5 2 7 5 5 2 2 5 4
        drawn(x, 1, 0, 3, 0, 0);
        drawn(x, 1, 0, 12, 0, 5, 1, 0, 4, 0);
        Check.due("works only", Check.tell(x, 0, 1, "work 3 3;"), 1);
        drawn(x, 1, 0, 12, 0, 5, 1, 0, 30, 0);
        // without works a promise draws no more: then born, cover of the one born, year
        Check.due("folk only", Check.tell(x, 0, 1, "folk 50 5;"), 1);
        drawn(x, 1, 0, 2, 1, 2);
        drawn(x, 1, 0, 3, 3, 2);
        drawn(x, 1, 0, 4, 0, 1, 3, 0, 11, 1);
        // a seed below 0: 1 1 6 6 1 2 0 7 0 6 5 1
        Check.due("nothing", Check.tell(x, 0, 1, ""), 1);
        drawn(x, 1, -1, 12, 0, 5);
        drawn(x, 0, 5, 60, 80, -2, 6, -2);
        drawn(x, 0, 5, 61, 0, -2);
        drawn(x, 0, 5, -1, 0, -2);
        drawn(x, 2, 5, 1, 0, -2);
        drawn(x, -1, 5, 1, 0, -2);
    }

    private static void after(PromiseValley x, int... whatAndWant) {
        for (int i = 0; i + 1 < whatAndWant.length; i += 2) {
            Check.due("after(0, 0, " + whatAndWant[i] + ")", x.after(0, 0, whatAndWant[i]), whatAndWant[i + 1]);
        }
    }

    private static void lookedBackOn() {
        PromiseValley x = lived(VALLEY, "promise 5 1 3;promise 4 0 2;year;year;", 4);
        after(x, 0, 3, 1, 0, 2, 4, 10, 0, 11, 1, 12, 1, 13, 0, 14, 0, 15, -2, 9, -2, 3, -2, -1, -2);
        x = lived(VALLEY, "promise 5 0 9;promise 5 0 1;year;die 0;die 1;promise 4 0 1;die 9;year;", 6);
        after(x, 0, -1, 1, 1, 2, 5, 10, 1, 11, 0, 12, 0, 13, 1, 14, 1);
        x = lived(VALLEY, "year;", 1);
        after(x, 0, -1, 1, -1, 2, -1, 10, 0, 14, 0);
        // of 6 that 1 could dig, 2 are needed: 5 are more
        x = lived(VALLEY, "year;born 2 7;promise 6 1 1;year;", 4);
        after(x, 0, 3, 1, 0);
        // grandparents without strength dig, but nothing
        x = lived("folk 70 0;folk 40 1;folk 3 1;child 1 0;child 2 1;work 3 3;", "promise 2 0 9;year;", 2);
        after(x, 1, -1, 2, 2);
        Check.due("after(1, 0, 0)", x.after(1, 0, 0), -2);
        Check.due("after(0, 1, 0)", x.after(0, 1, 0), -2);
        Check.due("after(-1, 0, 0)", x.after(-1, 0, 0), -2);
        Check.due("after(0, -1, 0)", x.after(0, -1, 0), -2);
    }
}
