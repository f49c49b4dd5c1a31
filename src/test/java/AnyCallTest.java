import java.util.Random;

/** Calls with any arguments in any state: none throws, and the same calls give the same answers. */
public final class AnyCallTest {
    private static final String[] TEXTS = {
        "", "folk", "folk 70 5;folk 40 1;folk 5 1;child 1 0;child 2 1;work 9 9;work 30 3;work 1 1;",
        Check.times(10, "folk 30 9;") + "child 9 8;child 8 7;child 9 0;child 7 6;" + Check.times(6, "work 19 7;"),
        Check.times(5, "folk 90 9;") + Check.times(5, "folk 1 9;") + "child 9 1;child 9 2;child 2 0;child 1 0;bound 1;work 9 9;",
        "work 3 3;", "folk 1 1;", "year;year;die 0;", Check.times(40, "year;"),
        "promise 2 0 9;year;promise 2 1 3;cover 2;born 0 9;promise 3 0 2;die 2;year;year;",
        Check.times(12, "promise 2 1 9;") + "die 0;year;", "years 9;", "dug 0 0;dug 5 0;", "years 3;dug 0 9;",
        "\u00ff\u0000", "bound 99;", Check.times(11, "folk 1 1;")};

    private AnyCallTest() {
    }

    public static void main(String[] args) {
        for (int seed = 0; seed < 400; seed++) {
            Check.due("the same calls by seed " + seed, run(seed), run(seed));
        }
        Check.finish();
    }

    private static long run(int seed) {
        Random draw = new Random(seed);
        PromiseValley x = new PromiseValley();
        long all = 0;
        // A text takes up to 33 calls: an object is asked 512 times at most.
        for (int used = 0; used < 470; used++) {
            if (draw.nextInt(8) == 0) {
                String text = TEXTS[draw.nextInt(TEXTS.length)];
                Check.tape(x, text);
                used += 2 + (text.length() + 19) / 20;
                all = all * 31 + x.text(draw.nextInt(3), draw.nextInt(4) - 1);
            } else {
                all = all * 31 + call(x, draw);
            }
        }
        return all;
    }

    private static int any(Random draw) {
        int[] odd = {Integer.MIN_VALUE, Integer.MAX_VALUE, -2, -1, 63, 64, 99, 100, 600, 1 << 30};
        int kind = draw.nextInt(20);
        if (kind == 0) {
            return odd[draw.nextInt(odd.length)];
        }
        return kind < 4 ? draw.nextInt(80) - 2 : kind < 12 ? draw.nextInt(12) - 1 : draw.nextInt(3);
    }

    private static long call(PromiseValley x, Random draw) {
        int a = any(draw);
        int b = any(draw);
        int c = any(draw);
        int d = any(draw);
        int e = any(draw);
        boolean is = draw.nextBoolean();
        int v = draw.nextInt(10) == 0 ? a : draw.nextInt(2);
        int l = draw.nextInt(10) == 0 ? b : draw.nextInt(2);
        switch (draw.nextInt(34)) {
            case 0: return x.feed(a, b, c, d, e);
            case 1: return x.end(a);
            case 2: return x.text(a, b);
            case 3: return x.fault(a);
            case 4: return x.valley(v, b);
            case 5: return x.deed(l, b, c);
            case 6: return x.stop(v, l);
            case 7: return x.state(v, l, c, d);
            case 8: return x.keep(v, b, c, d);
            case 9: return x.say(v, b, c, d);
            case 10: return x.dare(v, b, is);
            case 11: return x.plan(v, b, c);
            case 12: return x.odds(v, b, c, d, is);
            case 13: return x.power(v, b, c, d, e, is);
            case 14: return x.kinship(v, b, c, is);
            case 15: return x.line(v, b);
            case 16: return x.sight(l, b);
            case 17: return x.fits(v, l, c);
            case 18: return x.drawn(v, b, c, d);
            case 19: return x.elders(v, b, is);
            case 20: return x.apart(v, b, c);
            case 21: return x.houses(v, b);
            case 22: return x.soon(v, b, c);
            case 23: return x.most(v, b, c);
            case 24: return x.lot(v, b, is);
            case 25: return x.heaps(v, is);
            case 26: return x.loss(v, b, c);
            case 27: return x.wedding(v, b, c);
            case 28: return x.after(v, l, c);
            case 29: return x.share(v, l, c, is);
            case 30: return x.later(v, l);
            case 31: return x.image(a) ? 1 : 0;
            case 32: return x.count(a);
            default: return x.again(a) ? 1 : 0;
        }
    }
}
