import java.util.ArrayList;
import java.util.List;

/** What is asked, of whatever and in whatever order, leaves nothing behind that a later call answers by. */
final class EdgesOfOrder {
    /** Larger in all, and smaller in all. */
    private static final String[] VALLEYS = {
        EdgesOfAsked.house(9, 4) + "folk 70 2;folk 40 0;folk 5 0;child 7 6;child 8 7;folk 5 0;child 9 1;child 9 7;"
            + "work 9 4;work 18 9;work 20 20;work 30 1;work 2 2;work 1 0;bound 9;",
        "folk 16 3;folk 40 1;folk 5 2;child 2 1;work 8 3;work 30 5;"
    };
    private static final String[] LIVES = {
        "promise 2 0 1;promise 8 4 3;promise 3 3 9;cover 4;born 1 5;year;die 9;promise 2 1 1;year;", "cover 2;promise 2 0 2;year;die 1;"
    };
    private static final String[] SIGHTS = {"years 2;dug 3 0;dug 0 0;", "dug 1 0;"};

    private interface Asked {
        long of(PromiseValley x, int k);
    }

    private EdgesOfOrder() {
    }

    static void run() {
        askingLeavesNothing();
        textsLeaveNothing();
        bornInTheValleyOfALargerOne();
    }

    private static List<Asked> all() {
        List<Asked> all = new ArrayList<>();
        for (int what : new int[] {0, 1, 2, 3, 4, 5, 12, 22, 30, 31, 40, 41, 60}) {
            all.add((x, k) -> x.state(k, k, 1, what));
            all.add((x, k) -> x.drawn(k, 28, 9, what));
        }
        for (int what = 0; what < 9; what++) {
            int asked = what;
            all.add((x, k) -> x.houses(k, asked));
        }
        for (int what : new int[] {0, 1, 2, 10, 11, 12, 13, 14}) {
            all.add((x, k) -> x.after(k, k, what));
            all.add((x, k) -> x.fits(k, k, what));
        }
        for (int n : new int[] {1, 9}) {
            for (int what = 0; what < 3; what++) {
                int asked = what;
                all.add((x, k) -> x.plan(k, n, asked));
                all.add((x, k) -> x.most(k, n, asked));
            }
            for (int k = -1; k < 3; k++) {
                int asked = k;
                all.add((x, v) -> x.say(v, 3, n, asked));
            }
            all.add((x, k) -> x.keep(k, 2, 1, n));
            all.add((x, k) -> x.loss(k, 0, n));
        }
        addFractions(all);
        for (int k = -1; k < 4; k++) {
            int asked = k;
            all.add((x, v) -> x.line(v, asked));
        }
        for (int n = 1; n < 5; n++) {
            int asked = n;
            all.add((x, k) -> x.dare(k, asked, false));
            all.add((x, k) -> x.dare(k, asked, true));
        }
        all.add((x, k) -> x.stop(k, k));
        all.add((x, k) -> x.soon(k, 2, 0));
        all.add((x, k) -> x.lot(k, 30, true));
        all.add((x, k) -> x.heaps(k, false));
        all.add((x, k) -> x.heaps(k, true));
        all.add((x, k) -> x.elders(k, 2, false));
        all.add((x, k) -> x.elders(k, 1, true));
        all.add((x, k) -> x.apart(k, 2, 0));
        all.add((x, k) -> x.wedding(k, 0, 1));
        all.add((x, k) -> x.later(k, k));
        return all;
    }

    private static void addFractions(List<Asked> all) {
        for (boolean under : new boolean[] {false, true}) {
            all.add((x, k) -> x.odds(k, 2, 0, 1, under));
            all.add((x, k) -> x.power(k, 2, 0, 1, 0, under));
            all.add((x, k) -> x.kinship(k, 2, 1, under));
            all.add((x, k) -> x.share(k, k, 2, under));
        }
    }

    private static PromiseValley told() {
        PromiseValley x = new PromiseValley();
        for (int k = 0; k < 2; k++) {
            Check.told(x, 0, VALLEYS[k], k);
            Check.told(x, 1, LIVES[k], k);
            Check.told(x, 2, SIGHTS[k], k);
        }
        return x;
    }

    /** Each answer is due to be that of an object that was asked nothing else. */
    private static void askingLeavesNothing() {
        Words.term(3, "(Of a VALLEY as told.)");
        List<Asked> all = all();
        long[][] want = new long[all.size()][2];
        for (int i = 0; i < all.size(); i++) {
            for (int k = 0; k < 2; k++) {
                want[i][k] = all.get(i).of(told(), k);
            }
        }
        PromiseValley x = told();
        for (int i = 0; i < all.size(); i++) {
            Check.due("asked of 0, " + i, all.get(i).of(x, 0), want[i][0]);
            Check.due("asked of 1 behind 0, " + i, all.get(i).of(x, 1), want[i][1]);
        }
        x = told();
        for (int i = all.size() - 1; i >= 0; i--) {
            Check.due("asked backwards of 1, " + i, all.get(i).of(x, 1), want[i][1]);
            Check.due("asked backwards of 0 behind 1, " + i, all.get(i).of(x, 0), want[i][0]);
        }
    }

    /** Nothing of a text is in the next one of its sort, be it in its place or a further one. */
    private static void textsLeaveNothing() {
        Words.promise(4, "a further one (at NONE), or in the place of one: its number.");
        List<Asked> all = all();
        for (int k = 0; k < 2; k++) {
            PromiseValley alone = new PromiseValley();
            PromiseValley x = told();
            String[][] texts = {VALLEYS, LIVES, SIGHTS};
            for (int sort = 0; sort < 3; sort++) {
                Check.told(alone, sort, texts[sort][k], 0);
                Check.due("in place 0", Check.tell(x, sort, 0, texts[sort][1 - k]), 0);
                Check.due("a fault", Check.tell(x, sort, 0, texts[sort][1 - k] + "?"), -1);
                Check.due("in place 0 again", Check.tell(x, sort, 0, texts[sort][k]), 0);
            }
            for (int i = 0; i < all.size(); i++) {
                Check.due("asked of text " + k + ", " + i, all.get(i).of(x, 0), all.get(i).of(alone, 0));
            }
            for (int what = 0; what < 70; what++) {
                Check.due("valley(0, " + what + ")", x.valley(0, what), alone.valley(0, what));
                Check.due("sight(0, " + what + ")", x.sight(0, what), alone.sight(0, what));
            }
        }
        PromiseValley x = new PromiseValley();
        Check.told(x, 0, VALLEYS[0], 0);
        Check.told(x, 0, Check.times(10, "folk 5 9;") + "work 1 1;", 1);
        for (int f = 0; f < 10; f++) {
            Check.due("no parents: valley(1, " + (30 + f) + ")", x.valley(1, 30 + f), 0);
            Check.due("no grandparents: valley(1, " + (40 + f) + ")", x.valley(1, 40 + f), 0);
            Check.due("kept by nobody: keep(1, " + f + ", 0, 9)", x.keep(1, f, 0, 9), 0);
        }
    }

    private static void bornInTheValleyOfALargerOne() {
        Words.term(2, "one more, of AGE 0, STRENGTH as told, this one PARENT.");
        PromiseValley x = new PromiseValley();
        Check.told(x, 0, Check.times(10, "folk 50 9;") + "child 1 0;child 2 1;child 2 0;child 3 2;child 4 3;", 0);
        Check.due("in its place", Check.tell(x, 0, 0, "folk 70 1;folk 40 0;child 1 0;work 30 1;"), 0);
        Check.told(x, 1, "born 1 0;promise 2 0 9;year;", 0);
        Check.due("stop", x.stop(0, 0), 3);
        Check.due("its age", x.state(0, 0, 1, 12), 0);
        Check.due("no fourth", x.state(0, 0, 1, 13), -2);
        Check.due("dug", x.state(0, 0, 3, 30), 1);
        Check.due("a year older", x.state(0, 0, 3, 12), 1);
    }
}
