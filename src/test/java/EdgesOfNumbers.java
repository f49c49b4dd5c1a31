import java.util.function.IntToLongFunction;

/** Each number that each call takes, far off on both sides: the call is refused as its promise says. */
final class EdgesOfNumbers {
    private static final int MIN = Integer.MIN_VALUE;
    private static final int MAX = Integer.MAX_VALUE;
    /** Those that come round to small numbers again, if something is taken from them or they are shifted, too. */
    private static final int[] FAR = {
        MIN, MIN + 1, MIN + 2, MIN + 9, MIN + 10, MIN + 12, MIN + 20, MIN + 32, MIN + 60, -65536, -1024, -600, -100, -64, -33, -32, -31,
        -10, -3, 100, 128, 256, 600, 1024, 65536, 1 << 20, 1 << 30, MAX - 60, MAX - 9, MAX - 1, MAX
    };
    private static final String VALLEY = EdgesOfAsked.house(9, 2) + "work 9 1;work 9 2;";

    private EdgesOfNumbers() {
    }

    static void run() {
        numbersOfTheTape();
        numbersOfTexts();
        numbersOfLives();
        numbersOfKeeping();
        numbersOfSaying();
        numbersOfPlanning();
        numbersOfKin();
        numbersOfSights();
        numbersOfImages();
    }

    private static void far(String call, long refusal, IntToLongFunction asked) {
        for (int number : FAR) {
            Check.due(call + " with " + number, asked.applyAsLong(number), refusal);
        }
    }

    private static PromiseValley told() {
        PromiseValley x = EdgesOfAsked.of(VALLEY);
        Check.told(x, 1, "promise 2 0 1;year;", 0);
        Check.told(x, 2, "dug 0 9;", 0);
        return x;
    }

    private static void numbersOfTheTape() {
        Words.promise(3, "NONE if it has not so many, or n is below 0.");
        PromiseValley x = told();
        Check.tape(x, "bound 7;");
        far("end", -1, x::end);
        Check.due("the tape stays", x.end(8), 8);
        Words.promise(5, "NONE for another what.");
        far("fault", -1, x::fault);
    }

    private static void numbersOfTexts() {
        Words.promise(4, "-2: there is none such, there are as many as may be, or no such sort");
        PromiseValley x = told();
        far("text, sort", -2, n -> x.text(n, -1));
        far("text, sort in place 0", -2, n -> x.text(n, 0));
        far("text, at", -2, n -> x.text(0, n));
        Check.due("all stays", x.valley(0, 0), 4);
        Words.promise(33, "-2 for another one.");
        far("count", -2, x::count);
        Words.promise(6, "NONE: there is none such (of any), or for another what.");
        far("valley, valley", -1, n -> x.valley(n, 0));
        far("valley, what", -1, n -> x.valley(0, n));
        PromiseValley y = told();
        Words.promise(7, "-2: there is none such (of either), or for another what.");
        far("deed, life", -2, n -> y.deed(n, 0, 0));
        far("deed, k", -2, n -> y.deed(0, n, 0));
        far("deed, what", -2, n -> y.deed(0, 0, n));
        Words.promise(18, "NONE: there is none such (of either), or for another what.");
        far("sight, sight", -1, n -> y.sight(n, 0));
        far("sight, what", -1, n -> y.sight(0, n));
    }

    private static void numbersOfLives() {
        PromiseValley x = told();
        Words.promise(8, "NONE: there is none such (of either).");
        far("stop, valley", -1, n -> x.stop(n, 0));
        far("stop, life", -1, n -> x.stop(0, n));
        Words.promise(9, "-2: there is no such STATE, or for another what.");
        far("state, valley", -2, n -> x.state(n, 0, 0, 0));
        far("state, life", -2, n -> x.state(0, n, 0, 0));
        far("state, n", -2, n -> x.state(0, 0, n, 0));
        far("state, what", -2, n -> x.state(0, 0, 2, n));
        PromiseValley y = told();
        Words.promise(20, "-2: there is none such, another n, or for another what.");
        far("drawn, valley", -2, n -> y.drawn(n, 0, 0, 0));
        far("drawn, n", -2, n -> y.drawn(0, 0, n, 0));
        far("drawn, what", -2, n -> y.drawn(0, 0, 60, n));
        // any seed is one
        far("drawn, seed", 4, n -> y.drawn(0, n, 0, 1));
        Words.promise(30, "-2: there is none such (of either), or for another what.");
        far("after, valley", -2, n -> y.after(n, 0, 0));
        far("after, life", -2, n -> y.after(0, n, 0));
        far("after, what", -2, n -> y.after(0, 0, n));
    }

    private static void numbersOfKeeping() {
        PromiseValley x = told();
        Words.promise(10, "another n, or there is none such (of any).");
        far("keep, valley", -1, n -> x.keep(n, 2, 0, 1));
        far("keep, folk", -1, n -> x.keep(0, n, 0, 1));
        far("keep, work", -1, n -> x.keep(0, 2, n, 1));
        far("keep, n", -1, n -> x.keep(0, 2, 0, n));
        Words.promise(14, "NONE as keep().");
        far("odds, valley", -1, n -> x.odds(n, 2, 0, 1, true));
        far("odds, folk", -1, n -> x.odds(0, n, 0, 1, true));
        far("odds, work", -1, n -> x.odds(0, 2, n, 1, true));
        far("odds, n", -1, n -> x.odds(0, 2, 0, n, true));
        PromiseValley y = told();
        Words.promise(15, "NONE as keep(), or it is none of the GRANDPARENTS.");
        far("power, valley", -1, n -> y.power(n, 2, 0, 1, 0, true));
        far("power, folk", -1, n -> y.power(0, n, 0, 1, 0, true));
        far("power, work", -1, n -> y.power(0, 2, n, 1, 0, true));
        far("power, n", -1, n -> y.power(0, 2, 0, n, 0, true));
        far("power, elder", -1, n -> y.power(0, 2, 0, 1, n, true));
        Words.promise(24, "NONE: not in 9 years, or as keep().");
        far("soon, valley", -1, n -> y.soon(n, 2, 0));
        far("soon, folk", -1, n -> y.soon(0, n, 0));
        far("soon, work", -1, n -> y.soon(0, 2, n));
        PromiseValley z = told();
        Words.promise(28, "NONE: another n, or there is none such (of either).");
        far("loss, valley", -1, n -> z.loss(n, 0, 1));
        far("loss, folk", -1, n -> z.loss(0, n, 1));
        far("loss, n", -1, n -> z.loss(0, 0, n));
    }

    private static void numbersOfSaying() {
        PromiseValley x = told();
        Words.promise(11, "NONE: it can't be, not so many, a WORK that is not there, another n, or there is none such.");
        far("say, valley", -1, n -> x.say(n, 1, 1, -1));
        far("say, works", -1, n -> x.say(0, n, 1, -1));
        far("say, works, the first", -1, n -> x.say(0, n, 1, 0));
        far("say, n", -1, n -> x.say(0, 1, n, -1));
        far("say, k", -1, n -> x.say(0, 1, 1, n));
        Words.promise(12, "-999: another n, or there is none such.");
        far("dare, valley", -999, n -> x.dare(n, 1, true));
        far("dare, n", -999, n -> x.dare(0, n, true));
        Words.promise(25, "NONE: another n, there is none such, or for another what.");
        far("most, valley", -1, n -> x.most(n, 1, 1));
        far("most, n", -1, n -> x.most(0, n, 1));
        far("most, what", -1, n -> x.most(0, 1, n));
    }

    private static void numbersOfPlanning() {
        PromiseValley x = told();
        Words.promise(13, "NONE: another n, there is none such, or for another what.");
        far("plan, valley", -1, n -> x.plan(n, 1, 0));
        far("plan, n", -1, n -> x.plan(0, n, 0));
        far("plan, what", -1, n -> x.plan(0, 1, n));
        Words.promise(26, "NONE: another s, or there is none such.");
        far("lot, valley", -1, n -> x.lot(n, 9, true));
        far("lot, s", -1, n -> x.lot(0, n, true));
        Words.promise(27, "-2: there is none such.");
        far("heaps, valley", -2, n -> x.heaps(n, true));
    }

    private static void numbersOfKin() {
        PromiseValley x = told();
        Words.promise(16, "NONE: there is none such (of any).");
        far("kinship, valley", -1, n -> x.kinship(n, 0, 0, true));
        far("kinship, a", -1, n -> x.kinship(0, n, 0, true));
        far("kinship, b", -1, n -> x.kinship(0, 0, n, true));
        far("kinship, both", -1, n -> x.kinship(0, n, n, true));
        Words.promise(17, "NONE: not so many, or there is none such.");
        far("line, valley", -1, n -> x.line(n, -1));
        far("line, k", -1, n -> x.line(0, n));
        Words.promise(21, "NONE: there is none such (of either).");
        far("elders, valley", -1, n -> x.elders(n, 0, true));
        far("elders, folk", -1, n -> x.elders(0, n, true));
        PromiseValley y = told();
        Words.promise(22, "NONE: never, or there is none such (of any).");
        far("apart, valley", -1, n -> y.apart(n, 0, 0));
        far("apart, a", -1, n -> y.apart(0, n, 0));
        far("apart, b", -1, n -> y.apart(0, 0, n));
        Words.promise(23, "-2: there is none such, or for another what.");
        far("houses, valley", -2, n -> y.houses(n, 0));
        far("houses, what", -2, n -> y.houses(0, n));
        Words.promise(29, "NONE: it is one FOLK, or there is none such (of any).");
        far("wedding, valley", -1, n -> y.wedding(n, 0, 1));
        far("wedding, a", -1, n -> y.wedding(0, n, 1));
        far("wedding, b", -1, n -> y.wedding(0, 1, n));
        far("wedding, both", -1, n -> y.wedding(0, n, n));
    }

    private static void numbersOfSights() {
        PromiseValley x = told();
        Words.promise(19, "there is none such (of any), or for another what.");
        far("fits, valley", -2, n -> x.fits(n, 0, 0));
        far("fits, sight", -2, n -> x.fits(0, n, 0));
        far("fits, what", -2, n -> x.fits(0, 0, n));
        Words.promise(31, "NONE: nothing FITS, as -2 of fits(), or there is none such.");
        far("share, valley", -1, n -> x.share(n, 0, 2, true));
        far("share, sight", -1, n -> x.share(0, n, 2, true));
        far("share, folk", -1, n -> x.share(0, 0, n, true));
        Words.promise(32, "-2 as fits().");
        far("later, valley", -2, n -> x.later(n, 0));
        far("later, sight", -2, n -> x.later(0, n));
    }

    private static void numbersOfImages() {
        PromiseValley x = told();
        Words.promise(34, "false for another k.");
        far("image", 0, n -> x.image(n) ? 1 : 0);
        Words.promise(35, "false if there is none such.");
        far("again", 0, n -> x.again(n) ? 1 : 0);
        Check.due("all stays", x.valley(0, 0), 4);
        Words.promise(2, "twenty bytes come behind it, of each number the highest first");
        for (int number : FAR) {
            x.end(0);
            Check.due("feed of " + number, x.feed(number, number, number, number, number), 20);
        }
    }
}
