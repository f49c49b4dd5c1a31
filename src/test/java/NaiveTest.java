import java.util.ArrayList;
import java.util.List;
import java.util.Random;

/** The class against Naive, on texts drawn from fixed seeds: all promises but images. */
public final class NaiveTest {
    private static final int CALLS_MAX = 500;

    private static final Random DRAW = new Random(20261118);
    private static PromiseValley x;
    private static int calls;
    private static String valleyText;
    private static String lifeText;
    private static String sightText;
    private static Naive.Valley v;
    private static List<int[]> deeds;
    private static Naive.Sight s;

    private NaiveTest() {
    }

    public static void main(String[] args) {
        for (int i = 0; i < 6000; i++) {
            readOne();
        }
        for (int i = 0; i < 220; i++) {
            valleyText = aValley(i % 3 == 0 ? 10 : 1 + DRAW.nextInt(10), DRAW.nextInt(7));
            v = Naive.read(0, valleyText).valley;
            lifeText = aLife(v);
            sightText = aSight(v);
            deeds = Naive.read(1, lifeText).deeds;
            s = Naive.read(2, sightText).sight;
            calls = CALLS_MAX;
            asTold();
            lived();
            drawnLives();
            kept();
            said();
            planned();
            kin();
            seen();
        }
        Check.finish();
    }

    /** An object with the texts of now, a new one ahead of the calls after which all is free. */
    private static PromiseValley x() {
        calls++;
        if (calls > CALLS_MAX) {
            x = new PromiseValley();
            Check.tell(x, 0, -1, valleyText);
            Check.tell(x, 1, -1, lifeText);
            Check.tell(x, 2, -1, sightText);
            calls = 110;
        }
        return x;
    }

    private static void due(String call, long got, long want) {
        // Joined only if it will be shown: there are millions of these.
        boolean fine = got == want;
        Check.due(fine ? call : "[" + valleyText + "] [" + lifeText + "] [" + sightText + "] " + call, got, want);
    }

    // ---- texts

    private static int upTo(int most) {
        return DRAW.nextInt(most + 1);
    }

    private static String aValley(int folk, int works) {
        List<String> lines = new ArrayList<>();
        for (int f = 0; f < folk; f++) {
            int old = folk < 4 ? upTo(99) : f < folk / 3 ? 40 + upTo(59) : f < 2 * folk / 3 ? 12 + upTo(40) : upTo(11);
            lines.add("folk " + old + " " + upTo(9) + ";");
            int parents = f == 0 ? 0 : f < folk / 3 ? upTo(1) : 1 + upTo(1);
            for (int p = 0; p < parents; p++) {
                int from = upTo(2) == 0 ? 0 : Math.max(0, f - 1 - folk / 2);
                lines.add(upTo(lines.size()), "child " + f + " " + (from + DRAW.nextInt(f - from)) + ";");
            }
        }
        int sizes = upTo(1) == 0 ? 30 : 12;
        for (int w = 0; w < works; w++) {
            lines.add(upTo(lines.size()), "work " + (1 + DRAW.nextInt(sizes)) + " " + upTo(upTo(1) == 0 ? 20 : 3) + ";");
        }
        if (upTo(1) == 0) {
            lines.add(upTo(lines.size()), "bound " + (1 + upTo(29)) + ";");
        }
        String text = String.join(upTo(3) == 0 ? " \n" : "", lines);
        return Naive.read(0, text).fault == 0 ? text : aValley(folk, works);
    }

    /** A DEED, of one of the latest FOLK where children do it: these are the young of aValley. */
    private static String aDeed(int folk) {
        int young = Math.max(0, folk - 1 - upTo(4));
        int kind = upTo(19);
        if (kind < 9) {
            return "promise " + young + " " + upTo(5) + " " + (1 + upTo(8)) + ";";
        }
        if (kind == 9) {
            return "die " + upTo(9) + ";";
        }
        if (kind < 12) {
            return "born " + upTo(9) + " " + upTo(9) + ";";
        }
        return kind < 13 ? "cover " + young + ";" : "year;";
    }

    /** Most lives keep to DEEDS that can be, as far as a few tries find them. */
    private static String aLife(Naive.Valley land) {
        Naive.Lived l = new Naive.Lived(land);
        StringBuilder text = new StringBuilder();
        boolean careful = upTo(4) > 0;
        for (int k = 0; k < 40 && text.length() < 580; k++) {
            String line = aDeed(l.v.folk.size());
            for (int tries = 0; careful && tries < 30; tries++) {
                int[] d = Naive.read(1, line).deeds.get(0);
                if (l.deed(d[0], d[1], d[2], d[3])) {
                    break;
                }
                line = aDeed(l.v.folk.size());
            }
            text.append(line);
        }
        return text.toString();
    }

    /** Most sights tell facts that one PROMISE makes true, or nearly. */
    private static String aSight(Naive.Valley land) {
        StringBuilder text = new StringBuilder();
        int years = 1 + upTo(8);
        text.append("years ").append(years).append(";");
        Naive.Sight bare = new Naive.Sight();
        bare.years = years;
        List<int[]> all = Naive.fits(land, bare);
        int[] one = all.isEmpty() ? new int[] {0, upTo(5), upTo(5), 0} : all.get(DRAW.nextInt(all.size()));
        int facts = upTo(3);
        for (int k = 0; k < facts; k++) {
            int work = upTo(19) == 0 ? upTo(5) : DRAW.nextInt(Math.max(1, land.works.size()));
            int far = upTo(19) == 0 ? upTo(30) : work == one[1] ? one[2] : 0;
            text.append("dug ").append(work).append(" ").append(far).append(";");
        }
        return upTo(9) == 0 ? "" : text.toString();
    }

    private static void readOne() {
        int sort = DRAW.nextInt(3);
        valleyText = aValley(DRAW.nextInt(11), DRAW.nextInt(7));
        String text = valleyText;
        if (sort == 1) {
            StringBuilder life = new StringBuilder();
            int many = upTo(44);
            for (int k = 0; k < many && life.length() < 560; k++) {
                life.append(aDeed(10));
            }
            text = life.toString();
        } else if (sort == 2) {
            text = Check.times(upTo(10), "dug 1 1;") + Check.times(upTo(2), "years 3;");
        }
        String changed = upTo(9) == 0 ? text : upTo(2) == 0 ? spoiled(text) : longer(text, sort);
        Naive.Text want = Naive.read(sort, changed);
        PromiseValley y = new PromiseValley();
        Check.due("text(" + sort + ") of [" + changed + "]", Check.tell(y, sort, -1, changed), want.fault == 0 ? 0 : -1);
        Check.due("fault(0) of [" + changed + "]", y.fault(0), want.fault);
        Check.due("fault(1) of [" + changed + "]", y.fault(1), want.place);
        Check.due("end(1) behind [" + changed + "]", y.end(1), -1);
    }

    /** With lines of the sort more, at ends of lines: of right form. */
    private static String longer(String text, int sort) {
        String[][] lines = {
            {"folk 1 1;", "folk 10 10;", "child 9 9;", "child 9 8;", "child 9 7;", "child 5 4;", "child 5 3;", "child 5 2;",
                "child 11 1;", "work 31 1;", "work 3 3;", "work 3 21;", "bound 0;", "bound 3;"},
            {"year;", "die 11;", "die 1;", "promise 1 1 10;", "promise 1 6 1;", "born 1 10;", "cover 9;"},
            {"years 0;", "years 9;", "dug 6 1;", "dug 5 31;", "dug 5 5;"}};
        StringBuilder b = new StringBuilder(text);
        int changes = 1 + upTo(3);
        for (int i = 0; i < changes; i++) {
            b.insert(b.indexOf(";", upTo(b.length())) + 1, lines[sort][DRAW.nextInt(lines[sort].length)]);
        }
        return b.length() <= 600 ? b.toString() : text;
    }

    private static String spoiled(String text) {
        String[] bits = {"", " ", "\n", ";", "0", "1", "9", "31", "x", "folk 1 1;", "child 9 9;", "child 9 8;",
            "work 31 1;", "work 3 3;", "bound 0;", "year;", "die 11;", "years 0;", "dug 6 1;", "dug 5 5;", "?"};
        StringBuilder b = new StringBuilder(text);
        int changes = 1 + upTo(2);
        for (int i = 0; i < changes; i++) {
            // At a line's end as often as anywhere: else nearly all are out of form.
            int at = upTo(b.length());
            if (upTo(2) > 0) {
                at = b.indexOf(";", at) + 1;
            }
            if (upTo(3) == 0 && at < b.length()) {
                b.deleteCharAt(at);
            }
            b.insert(at, bits[DRAW.nextInt(bits.length)]);
        }
        return b.length() <= 600 ? b.toString() : text;
    }

    // ---- what is asked

    private static void asTold() {
        due("valley(0)", x().valley(0, 0), v.folk.size());
        due("valley(1)", x().valley(0, 1), v.works.size());
        due("valley(2)", x().valley(0, 2), v.bound);
        for (int i = 0; i < 10; i++) {
            boolean is = i < v.folk.size();
            Naive.Person p = is ? v.folk.get(i) : null;
            due("valley(1.)", x().valley(0, 10 + i), is ? p.age : -1);
            due("valley(2.)", x().valley(0, 20 + i), is ? p.strength : -1);
            due("valley(3.)", x().valley(0, 30 + i), is ? Naive.bits(p.parents) : -1);
            due("valley(4.)", x().valley(0, 40 + i), is ? Naive.bits(p.grandparents()) : -1);
            boolean work = i < v.works.size();
            due("valley(5.)", x().valley(0, 50 + i), work ? v.works.get(i).size : -1);
            due("valley(6.)", x().valley(0, 60 + i), work ? v.works.get(i).worth : -1);
        }
        due("deed(-1)", x().deed(0, -1, 0), deeds.size());
        for (int k = 0; k <= deeds.size(); k++) {
            for (int what = 0; what < 5; what++) {
                due("deed", x().deed(0, k, what), k < deeds.size() && what < 4 ? deeds.get(k)[what] : -2);
            }
        }
        due("sight(0)", x().sight(0, 0), s.years);
        due("sight(1)", x().sight(0, 1), s.facts.size());
        for (int k = 0; k < 10; k++) {
            boolean is = k < s.facts.size();
            due("sight(1.)", x().sight(0, 10 + k), is ? s.facts.get(k)[0] : -1);
            due("sight(2.)", x().sight(0, 20 + k), is ? s.facts.get(k)[1] : -1);
        }
    }

    private static void lived() {
        int stop = new Naive.Lived(v).live(deeds, deeds.size()).done;
        due("stop", x().stop(0, 0), stop);
        for (int n = -1; n <= 41; n++) {
            boolean is = n >= 0 && n <= stop;
            Naive.Lived l = is ? new Naive.Lived(v).live(deeds, n) : null;
            for (int what = -1; what < 80; what++) {
                if (is || what == 2) {
                    due("state(" + n + ", " + what + ")", x().state(0, 0, n, what), is ? l.look(what) : -2);
                }
            }
        }
        Naive.Lived all = new Naive.Lived(v).live(deeds, stop);
        for (int what = -1; what < 17; what++) {
            due("after(" + what + ")", x().after(0, 0, what), all.back(what));
        }
    }

    private static void drawnLives() {
        for (int i = 0; i < 4; i++) {
            int seed = DRAW.nextInt();
            int n = upTo(60);
            Naive.Lived l = Naive.drawn(v, seed, n);
            for (int what = -1; what < 80; what++) {
                due("drawn(" + seed + ", " + n + ", " + what + ")", x().drawn(0, seed, n, what), l.look(what));
            }
        }
        due("drawn(61)", x().drawn(0, 1, 61, 0), -2);
        due("drawn(-1)", x().drawn(0, 1, -1, 0), -2);
    }

    private static void kept() {
        for (int f = -1; f <= v.folk.size(); f++) {
            for (int w = -1; w <= v.works.size(); w++) {
                boolean is = f >= 0 && f < v.folk.size() && w >= 0 && w < v.works.size() && v.folk.get(f).young();
                int soon = -1;
                for (int n = 10; n >= 0; n--) {
                    boolean fine = is && n >= 1 && n <= 9;
                    boolean keeps = fine && Naive.keeps(v.folk.get(f), v.works.get(w), n, null);
                    soon = keeps ? n : soon;
                    due("keep(" + f + ", " + w + ", " + n + ")", x().keep(0, f, w, n), fine ? keeps ? 1 : 0 : -1);
                    chances(fine, f, w, n);
                }
                due("soon(" + f + ", " + w + ")", x().soon(0, f, w), soon);
            }
            boolean is = f >= 0 && f < v.folk.size();
            for (int n = 0; n <= 10; n++) {
                due("loss(" + f + ", " + n + ")", x().loss(0, f, n), is && n > 0 && n < 10 ? Naive.loss(v, v.folk.get(f), n) : -1);
            }
        }
    }

    private static void chances(boolean fine, int f, int w, int n) {
        for (int under = 0; under < 2; under++) {
            boolean below = under == 1;
            List<Naive.Person> elders = fine ? new ArrayList<>(v.folk.get(f).grandparents()) : null;
            long odds = fine ? Naive.odds(elders, 0, v.works.get(w), n).part(below) : -1;
            due("odds(" + f + ", " + w + ", " + n + ", " + below + ")", x().odds(0, f, w, n, below), odds);
            for (int g = -1; fine && n % 2 == 1 && g <= v.folk.size(); g++) {
                boolean elder = g >= 0 && g < v.folk.size() && elders.contains(v.folk.get(g));
                long power = elder ? Naive.power(v.folk.get(f), v.works.get(w), n, v.folk.get(g)).part(below) : -1;
                due("power(" + f + ", " + w + ", " + n + ", " + g + ")", x().power(0, f, w, n, g, below), power);
            }
        }
    }

    private static void said() {
        for (int n = 0; n <= 10; n++) {
            boolean span = n > 0 && n < 10;
            for (int set = 0; set <= 64; set++) {
                if (set % 3 != n % 3 && set < 60) {
                    continue;
                }
                boolean is = span && set < 1 << v.works.size();
                List<Integer> row = is ? Naive.say(v, Naive.worksOf(v, set), n) : null;
                due("say(" + set + ", " + n + ")", x().say(0, set, n, -1), row == null ? -1 : row.size());
                for (int k = 0; k <= 6; k++) {
                    due("say(" + set + ", " + n + ", " + k + ")", x().say(0, set, n, k), row == null || k >= row.size() ? -1 : row.get(k));
                }
            }
            for (int what = -1; what < 4; what++) {
                boolean is = span && what >= 0 && what < 3;
                due("most(" + n + ", " + what + ")", x().most(0, n, what), is ? Naive.most(v, n, what) : -1);
            }
        }
        for (int n = -1; n <= 5; n++) {
            boolean is = n >= 0 && n <= 4;
            int[] want = is ? Naive.dare(v, n, 0, new java.util.HashSet<>(), new java.util.HashSet<>()) : null;
            due("dare(" + n + ", false)", x().dare(0, n, false), is ? want[0] : -999);
            due("dare(" + n + ", true)", x().dare(0, n, true), is ? want[1] : -999);
        }
    }

    private static void planned() {
        for (int load = -1; load <= 100; load++) {
            boolean is = load >= 0 && load <= 99;
            due("lot(" + load + ")", x().lot(0, load, false), is ? Naive.lot(v, load, false) : -1);
            due("lot(" + load + ")", x().lot(0, load, true), is ? Naive.lot(v, load, true) : -1);
        }
        due("heaps(false)", x().heaps(0, false), Naive.heaps(v, false));
        due("heaps(true)", x().heaps(0, true), Naive.heaps(v, true));
        // All ways in which all dig: too many with many FOLK and WORKS.
        if (Math.pow(v.works.size() + 1, v.folk.size()) > 300000) {
            return;
        }
        for (int n = 0; n <= 10; n++) {
            boolean is = n > 0 && n < 10;
            int[] want = is ? Naive.plan(v, n) : null;
            for (int what = -1; what < 4; what++) {
                due("plan(" + n + ", " + what + ")", x().plan(0, n, what), is && what >= 0 && what < 3 ? want[what] : -1);
            }
        }
    }

    private static void kin() {
        List<Integer> line = Naive.line(v);
        int[][] steps = Naive.steps(v);
        for (int k = -2; k <= 10; k++) {
            int want = k >= 0 && k < line.size() ? line.get(k) : -1;
            due("line(" + k + ")", x().line(0, k), k == -1 ? line.size() : want);
        }
        for (int what = -1; what < 10; what++) {
            due("houses(" + what + ")", x().houses(0, what), Naive.houses(v, what));
        }
        for (int a = -1; a <= v.folk.size(); a++) {
            boolean isA = a >= 0 && a < v.folk.size();
            due("elders(" + a + ")", x().elders(0, a, false), isA ? Naive.bits(Naive.elders(v.folk.get(a))) : -1);
            due("young(" + a + ")", x().elders(0, a, true), isA ? Naive.bits(Naive.young(v, v.folk.get(a))) : -1);
            for (int b = -1; b <= v.folk.size(); b++) {
                boolean is = isA && b >= 0 && b < v.folk.size();
                Naive.Fraction near = is ? Naive.kinship(v.folk.get(a), v.folk.get(b)) : null;
                due("kinship(" + a + ", " + b + ")", x().kinship(0, a, b, false), is ? near.part(false) : -1);
                due("kinship(" + a + ", " + b + ")", x().kinship(0, a, b, true), is ? near.part(true) : -1);
                due("apart(" + a + ", " + b + ")", x().apart(0, a, b), is && steps[a][b] < 99 ? steps[a][b] : -1);
                due("wedding(" + a + ", " + b + ")", x().wedding(0, a, b), is && a != b ? Naive.wedding(v.folk.get(a), v.folk.get(b)) : -1);
            }
        }
    }

    private static void seen() {
        List<int[]> fits = Naive.fits(v, s);
        for (int what = -1; what < 75; what++) {
            boolean is = what >= 0 && (what < 3 || what >= 10);
            due("fits(" + what + ")", x().fits(0, 0, what), is ? Naive.fitsLook(v, fits, what) : -2);
        }
        int later = 0;
        for (int i = 0; fits != null && i < fits.size(); i++) {
            later += fits.get(i)[3];
        }
        due("later", x().later(0, 0), fits == null ? -2 : later);
        for (int f = -1; f <= v.folk.size(); f++) {
            boolean is = f >= 0 && f < v.folk.size() && fits != null && !fits.isEmpty();
            int by = 0;
            for (int i = 0; is && i < fits.size(); i++) {
                by += fits.get(i)[0] == f ? 1 : 0;
            }
            due("share(" + f + ")", x().share(0, 0, f, false), is ? new Naive.Fraction(by, fits.size()).part(false) : -1);
            due("share(" + f + ")", x().share(0, 0, f, true), is ? new Naive.Fraction(by, fits.size()).part(true) : -1);
        }
    }
}
