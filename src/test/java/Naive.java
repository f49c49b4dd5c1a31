import java.math.BigInteger;
import java.util.ArrayList;
import java.util.Arrays;
import java.util.Collections;
import java.util.HashMap;
import java.util.HashSet;
import java.util.List;
import java.util.Map;
import java.util.Set;
import java.util.TreeMap;
import java.util.TreeSet;
import java.util.regex.Matcher;
import java.util.regex.Pattern;

/** The document written a second time, slowly, with lists, sets and full searches. */
final class Naive {
    static final int OPEN = 0;
    static final int KEPT = 1;
    static final int LET_GO = 2;
    static final int BROKEN = 3;
    static final int FREE = 4;

    private Naive() {
    }

    static final class Person {
        int age;
        int strength;
        final Set<Person> parents = new HashSet<>();
        boolean dead;
        boolean covered;
        int dug;
        int number;

        Set<Person> grandparents() {
            Set<Person> all = new HashSet<>();
            for (Person p : parents) {
                all.addAll(p.parents);
            }
            return all;
        }

        boolean young() {
            return age <= 9;
        }
    }

    static final class Work {
        int size;
        int worth;
        int dug;
        int number;
    }

    static final class Valley {
        final List<Person> folk = new ArrayList<>();
        final List<Work> works = new ArrayList<>();
        int bound = 20;

        Valley copy() {
            Valley v = new Valley();
            v.bound = bound;
            for (Person p : folk) {
                Person q = new Person();
                q.age = p.age;
                q.strength = p.strength;
                q.number = p.number;
                for (Person r : p.parents) {
                    q.parents.add(v.folk.get(r.number));
                }
                v.folk.add(q);
            }
            for (Work w : works) {
                Work u = new Work();
                u.size = w.size;
                u.worth = w.worth;
                u.number = w.number;
                v.works.add(u);
            }
            return v;
        }

        Person addPerson(int age, int strength) {
            Person p = new Person();
            p.age = age;
            p.strength = strength;
            p.number = folk.size();
            folk.add(p);
            return p;
        }

        List<Person> children() {
            List<Person> all = new ArrayList<>();
            for (Person p : folk) {
                if (p.young()) {
                    all.add(p);
                }
            }
            return all;
        }
    }

    static final class Sight {
        int years = 1;
        final List<int[]> facts = new ArrayList<>();
    }

    static int bits(Iterable<Person> all) {
        int sum = 0;
        for (Person p : all) {
            sum |= 1 << p.number;
        }
        return sum;
    }

    // ---- texts

    static final class Text {
        int fault;
        int place = -1;
        final Valley valley = new Valley();
        final List<int[]> deeds = new ArrayList<>();
        final Sight sight = new Sight();
    }

    private static final Map<String, String> FORMS = new HashMap<>();

    static {
        // sort, word: a range for each number
        FORMS.put("0folk", "0-99 0-9");
        FORMS.put("0child", "0-9 0-99");
        FORMS.put("0work", "1-30 0-20");
        FORMS.put("0bound", "1-30");
        FORMS.put("1promise", "0-9 0-5 1-9");
        FORMS.put("1born", "0-9 0-9");
        FORMS.put("1cover", "0-9");
        FORMS.put("1die", "0-9");
        FORMS.put("1year", "");
        FORMS.put("2years", "1-9");
        FORMS.put("2dug", "0-5 0-30");
    }

    static Text read(int sort, String text) {
        Text t = new Text();
        List<String> tokens = new ArrayList<>();
        List<Integer> places = new ArrayList<>();
        Matcher m = Pattern.compile("[a-z]+|[0-9]+|[^ \\n]").matcher(text);
        while (m.find()) {
            tokens.add(m.group());
            places.add(m.start());
        }
        tokens.add("END");
        places.add(text.length());
        TreeMap<Integer, Integer> faults = new TreeMap<>();
        Map<String, Integer> many = new HashMap<>();
        List<int[]> couples = new ArrayList<>();
        int at = 0;
        while (!tokens.get(at).equals("END")) {
            String word = tokens.get(at);
            String form = FORMS.get(sort + word);
            if (form == null) {
                return formFault(t, places.get(at));
            }
            String[] ranges = form.isEmpty() ? new String[0] : form.split(" ");
            int[] numbers = {-1, -1, -1};
            for (int i = 0; i <= ranges.length; i++) {
                String want = i < ranges.length ? "[0-9]{1,2}" : ";";
                if (!tokens.get(at + 1 + i).matches(want)) {
                    return formFault(t, places.get(at + 1 + i));
                }
                if (i < ranges.length) {
                    numbers[i] = Integer.parseInt(tokens.get(at + 1 + i));
                }
            }
            String counted = sort == 1 ? "deed" : word;
            many.merge(counted, 1, Integer::sum);
            int limit = sort == 1 ? 40 : word.equals("folk") ? 10 : word.equals("work") ? 6 : word.equals("dug") ? 8 : 9999;
            if (many.get(counted) > limit) {
                faults.merge(places.get(at), 3, Math::min);
            }
            for (int i = 0; i < ranges.length; i++) {
                String[] range = ranges[i].split("-");
                boolean fine = numbers[i] >= Integer.parseInt(range[0]) && numbers[i] <= Integer.parseInt(range[1]);
                if (word.equals("child") && i == 1 && numbers[1] >= numbers[0]) {
                    fine = false;
                }
                if (!fine) {
                    faults.merge(places.get(at + 1 + i), 2, Math::min);
                }
            }
            store(t, sort, word, numbers, couples);
            at += ranges.length + 2;
        }
        if (faults.isEmpty() && sort == 0) {
            judge(t, couples, text.length(), faults);
        }
        if (!faults.isEmpty()) {
            t.place = faults.firstKey();
            t.fault = faults.get(t.place);
        }
        return t;
    }

    private static Text formFault(Text t, int place) {
        t.fault = 1;
        t.place = place;
        return t;
    }

    private static void store(Text t, int sort, String word, int[] n, List<int[]> couples) {
        if (sort == 1) {
            int kind = Arrays.asList("promise", "born", "cover", "die", "year").indexOf(word);
            t.deeds.add(new int[] {kind, n[0], n[1], n[2]});
        } else if (word.equals("folk")) {
            t.valley.addPerson(n[0], n[1]);
        } else if (word.equals("work")) {
            Work w = new Work();
            w.size = n[0];
            w.worth = n[1];
            w.number = t.valley.works.size();
            t.valley.works.add(w);
        } else if (word.equals("child")) {
            couples.add(n);
        } else if (word.equals("bound")) {
            t.valley.bound = n[0];
        } else if (word.equals("years")) {
            t.sight.years = n[0];
        } else {
            t.sight.facts.add(new int[] {n[0], n[1]});
        }
    }

    private static void judge(Text t, List<int[]> couples, int end, TreeMap<Integer, Integer> faults) {
        List<Person> folk = t.valley.folk;
        Map<Integer, Set<Integer>> parents = new HashMap<>();
        for (int[] c : couples) {
            parents.computeIfAbsent(c[0], k -> new HashSet<>()).add(c[1]);
            if (c[0] >= folk.size() || c[1] >= folk.size()) {
                faults.merge(end, 4, Math::min);
            } else {
                folk.get(c[0]).parents.add(folk.get(c[1]));
            }
        }
        for (Set<Integer> of : parents.values()) {
            if (of.size() > 2) {
                faults.merge(end, 5, Math::min);
            }
        }
    }

    // ---- lives

    static final class Promise {
        Person by;
        Work of;
        int due;
        int fate;
    }

    static final class Lived {
        final Valley v;
        final List<Promise> promises = new ArrayList<>();
        int year;
        int done;
        int firstKept = -1;

        Lived(Valley told) {
            v = told.copy();
        }

        Person person(int f) {
            return f >= 0 && f < v.folk.size() ? v.folk.get(f) : null;
        }

        /** Stops at the first DEED that can't be. */
        Lived live(List<int[]> deeds, int n) {
            for (int k = 0; k < n; k++) {
                int[] d = deeds.get(k);
                long kept = promises.stream().filter(p -> p.fate == KEPT).count();
                if (!deed(d[0], d[1], d[2], d[3])) {
                    break;
                }
                done++;
                if (kept == 0 && promises.stream().anyMatch(p -> p.fate == KEPT)) {
                    firstKept = k;
                }
            }
            return this;
        }

        boolean deed(int kind, int a, int b, int c) {
            Person p = person(a);
            if (kind == 4) {
                return year();
            }
            if (p == null || p.dead) {
                return false;
            }
            if (kind == 0) {
                if (!p.young() || p.covered || b >= v.works.size() || promises.size() == 12) {
                    return false;
                }
                Work w = v.works.get(b);
                if (w.dug == w.size) {
                    return false;
                }
                Promise q = new Promise();
                q.by = p;
                q.of = w;
                q.due = year + c;
                q.fate = p.grandparents().stream().allMatch(g -> g.dead) ? FREE : OPEN;
                promises.add(q);
                return true;
            }
            if (kind == 1) {
                if (p.age < 16 || v.folk.size() == 10) {
                    return false;
                }
                v.addPerson(0, b).parents.add(p);
                return true;
            }
            if (kind == 2) {
                if (!p.young()) {
                    return false;
                }
                p.covered = true;
                return true;
            }
            p.dead = true;
            for (Promise q : promises) {
                if (q.by == p && q.fate == OPEN) {
                    q.fate = LET_GO;
                }
            }
            return true;
        }

        List<Promise> owed(Person p) {
            List<Promise> all = new ArrayList<>();
            for (Promise q : promises) {
                if (q.fate == OPEN && !p.dead && q.by.grandparents().contains(p)) {
                    all.add(q);
                }
            }
            return all;
        }

        boolean year() {
            for (Person p : v.folk) {
                List<Promise> owed = owed(p);
                owed.sort((x, y) -> x.due - y.due);
                if (!owed.isEmpty()) {
                    Work w = owed.get(0).of;
                    for (int i = 0; i < p.strength && w.dug < w.size; i++) {
                        w.dug++;
                        p.dug++;
                    }
                    for (Promise q : promises) {
                        if (w.dug == w.size && q.of == w && q.fate == OPEN) {
                            q.fate = KEPT;
                        }
                    }
                }
            }
            for (Person p : v.folk) {
                p.age = p.dead ? p.age : Math.min(99, p.age + 1);
                p.covered = false;
            }
            year++;
            for (Promise q : promises) {
                if (q.fate == OPEN) {
                    boolean big = q.of.size >= v.bound;
                    if (!q.by.young() && !big) {
                        q.fate = LET_GO;
                    } else if (q.due <= year) {
                        q.fate = BROKEN;
                    }
                }
            }
            return true;
        }

        int look(int what) {
            List<Person> alive = new ArrayList<>(v.folk);
            alive.removeIf(p -> p.dead);
            List<Person> hushed = new ArrayList<>(v.folk);
            hushed.removeIf(p -> !p.covered);
            int finished = 0;
            for (Work w : v.works) {
                finished += w.dug == w.size ? 1 << w.number : 0;
            }
            int[] plain = {year, v.folk.size(), bits(alive), bits(hushed), promises.size(), finished};
            if (what >= 0 && what < 6) {
                return plain[what];
            }
            int tens = Math.floorDiv(what, 10);
            int ones = Math.floorMod(what, 10);
            if ((tens == 1 || tens == 2) && ones < v.folk.size()) {
                Person p = v.folk.get(ones);
                int owes = 0;
                for (Promise q : owed(p)) {
                    owes |= 1 << promises.indexOf(q);
                }
                return tens == 1 ? p.age : owes;
            }
            if (tens == 3 && ones < v.works.size()) {
                return v.works.get(ones).dug;
            }
            if (what >= 40 && what < 60 && what - 40 < promises.size()) {
                return promises.get(what - 40).fate;
            }
            if (what >= 60 && what < 80 && what - 60 < promises.size()) {
                return promises.get(what - 60).due;
            }
            return -2;
        }

        int back(int what) {
            if (what == 0) {
                return firstKept;
            }
            if (what == 1 || what == 2) {
                int best = -1;
                long most = 0;
                for (Person p : v.folk) {
                    long much = what == 1 ? p.dug : promises.stream().filter(q -> q.by == p).count();
                    if (much > most) {
                        most = much;
                        best = p.number;
                    }
                }
                return best;
            }
            if (what >= 10 && what <= 14) {
                return (int) promises.stream().filter(q -> q.fate == what - 10).count();
            }
            return -2;
        }
    }

    static Lived drawn(Valley v, int seed, int n) {
        Lived l = new Lived(v);
        int[] x = {seed};
        for (int i = 0; i < n; i++) {
            int kind = draw(x, 8);
            int folk = l.v.folk.size();
            int works = v.works.size();
            if (kind > 4) {
                l.deed(4, -1, -1, -1);
            } else if (folk > 0 && kind < 2 && works > 0) {
                int f = draw(x, folk);
                int w = draw(x, works);
                l.deed(0, f, w, draw(x, 9) + 1);
            } else if (folk > 0 && (kind == 2 || kind == 3)) {
                l.deed(kind, draw(x, folk), -1, -1);
            } else if (folk > 0 && kind == 4) {
                int f = draw(x, folk);
                l.deed(1, f, draw(x, 10), -1);
            }
        }
        return l;
    }

    private static int draw(int[] x, int n) {
        long next = ((x[0] & 0xffffffffL) * 1103515245L + 12345L) & 0xffffffffL;
        x[0] = (int) next;
        return (int) ((next >> 16) % n);
    }

    // ---- of a VALLEY as told

    static boolean keeps(Person p, Work w, int n, Person without) {
        int sum = 0;
        for (int year = 0; year < n; year++) {
            for (Person g : p.grandparents()) {
                sum += g == without ? 0 : g.strength;
            }
        }
        return p.young() && sum >= w.size;
    }

    /** The first row of FOLK for the WORKS in order, null if there is none. */
    static List<Integer> say(Valley v, List<Work> works, int n) {
        return say(v, works, n, new ArrayList<>());
    }

    private static List<Integer> say(Valley v, List<Work> works, int n, List<Integer> soFar) {
        if (soFar.size() == works.size()) {
            return soFar;
        }
        for (Person p : v.folk) {
            if (!soFar.contains(p.number) && keeps(p, works.get(soFar.size()), n, null)) {
                List<Integer> more = new ArrayList<>(soFar);
                more.add(p.number);
                List<Integer> found = say(v, works, n, more);
                if (found != null) {
                    return found;
                }
            }
        }
        return null;
    }

    static List<Work> worksOf(Valley v, int bits) {
        List<Work> all = new ArrayList<>();
        for (Work w : v.works) {
            if ((bits & 1 << w.number) != 0) {
                all.add(w);
            }
        }
        return all;
    }

    /** How much more the first has in the end, and what is best to take now. */
    static int[] dare(Valley v, int n, int turn, Set<Work> taken, Set<Person> gone) {
        if (turn == n) {
            return new int[] {0, -1};
        }
        boolean firstsTurn = turn % 2 == 0;
        int best = firstsTurn ? Integer.MIN_VALUE : Integer.MAX_VALUE;
        int take = -1;
        for (int w = 0; w <= 6; w++) {
            Set<Work> takenThen = new HashSet<>(taken);
            Set<Person> goneThen = new HashSet<>(gone);
            int gain = 0;
            if (w < 6) {
                if (w >= v.works.size() || taken.contains(v.works.get(w))) {
                    continue;
                }
                Work work = v.works.get(w);
                Person with = null;
                for (Person p : v.folk) {
                    if (with == null && !gone.contains(p) && keeps(p, work, 9, null)) {
                        with = p;
                    }
                }
                if (with == null) {
                    continue;
                }
                takenThen.add(work);
                goneThen.add(with);
                gain = work.worth;
            }
            int value = (firstsTurn ? gain : -gain) + dare(v, n, turn + 1, takenThen, goneThen)[0];
            if (firstsTurn ? value > best : value < best) {
                best = value;
                take = w;
            }
        }
        return new int[] {best, take};
    }

    /** WORTH, WORKS, fewest FOLK, by trying all ways in which each FOLK digs. */
    static int[] plan(Valley v, int n) {
        int[] fewest = new int[64];
        Arrays.fill(fewest, 99);
        planFrom(v, n, 0, new int[6], 0, fewest);
        int[] best = {-1, 0, 0};
        for (int set = 0; set < 64; set++) {
            int worth = 0;
            for (Work w : worksOf(v, set)) {
                worth += w.worth;
            }
            if (fewest[set] < 99 && worth > best[0]) {
                best = new int[] {worth, set, fewest[set]};
            }
        }
        return best;
    }

    private static void planFrom(Valley v, int n, int f, int[] dug, int hands, int[] fewest) {
        if (f == v.folk.size()) {
            int set = 0;
            for (Work w : v.works) {
                set |= dug[w.number] * n >= w.size ? 1 << w.number : 0;
            }
            fewest[set] = Math.min(fewest[set], hands);
            return;
        }
        planFrom(v, n, f + 1, dug, hands, fewest);
        for (int w = 0; w < v.works.size(); w++) {
            dug[w] += v.folk.get(f).strength;
            planFrom(v, n, f + 1, dug, hands + 1, fewest);
            dug[w] -= v.folk.get(f).strength;
        }
    }

    static final class Fraction {
        final BigInteger top;
        final BigInteger under;

        Fraction(long top, long under) {
            this(BigInteger.valueOf(top), BigInteger.valueOf(under));
        }

        Fraction(BigInteger top, BigInteger under) {
            BigInteger both = top.gcd(under);
            this.top = top.divide(both);
            this.under = under.divide(both);
        }

        Fraction plus(Fraction o) {
            return new Fraction(top.multiply(o.under).add(o.top.multiply(under)), under.multiply(o.under));
        }

        Fraction times(Fraction o) {
            return new Fraction(top.multiply(o.top), under.multiply(o.under));
        }

        long part(boolean below) {
            return (below ? under : top).longValueExact();
        }
    }

    static Fraction odds(List<Person> elders, int strength, Work w, int n) {
        if (elders.isEmpty()) {
            return new Fraction(strength * n >= w.size ? 1 : 0, 1);
        }
        Person g = elders.get(0);
        List<Person> rest = elders.subList(1, elders.size());
        int lives = 10 - g.age / 10;
        Fraction alive = odds(rest, strength + g.strength, w, n).times(new Fraction(lives, 10));
        Fraction dead = odds(rest, strength, w, n).times(new Fraction(10 - lives, 10));
        return alive.plus(dead);
    }

    static Fraction power(Person p, Work w, int n, Person elder) {
        List<List<Person>> rows = rows(new ArrayList<>(p.grandparents()));
        int turned = 0;
        for (List<Person> row : rows) {
            int sum = 0;
            for (Person g : row) {
                boolean could = sum * n >= w.size;
                sum += g.strength;
                if (!could && sum * n >= w.size && g == elder) {
                    turned++;
                }
            }
        }
        return new Fraction(turned, rows.size());
    }

    private static List<List<Person>> rows(List<Person> of) {
        List<List<Person>> all = new ArrayList<>();
        if (of.isEmpty()) {
            all.add(new ArrayList<>());
        }
        for (Person p : of) {
            List<Person> rest = new ArrayList<>(of);
            rest.remove(p);
            for (List<Person> row : rows(rest)) {
                row.add(0, p);
                all.add(row);
            }
        }
        return all;
    }

    static Fraction kinship(Person a, Person b) {
        Fraction half = new Fraction(1, 2);
        if (a == b) {
            if (a.parents.size() < 2) {
                return half;
            }
            List<Person> two = new ArrayList<>(a.parents);
            return half.plus(half.times(kinship(two.get(0), two.get(1))));
        }
        Person later = a.number > b.number ? a : b;
        Person other = later == a ? b : a;
        Fraction sum = new Fraction(0, 1);
        for (Person p : later.parents) {
            sum = sum.plus(half.times(kinship(p, other)));
        }
        return sum;
    }

    static List<Integer> line(Valley v) {
        List<List<Integer>> all = new ArrayList<>();
        for (Person p : v.folk) {
            rowsDown(v, p, new ArrayList<>(), all);
        }
        List<Integer> best = new ArrayList<>();
        for (List<Integer> row : all) {
            if (row.size() > best.size() || (row.size() == best.size() && row.toString().compareTo(best.toString()) < 0)) {
                best = row;
            }
        }
        return best;
    }

    private static void rowsDown(Valley v, Person p, List<Integer> above, List<List<Integer>> all) {
        List<Integer> row = new ArrayList<>(above);
        row.add(p.number);
        all.add(row);
        for (Person c : v.folk) {
            if (c.parents.contains(p)) {
                rowsDown(v, c, row, all);
            }
        }
    }

    // ---- sights

    /** Null if a WORK that was told of is not there; else FOLK, WORK, how far, whether DONE later. */
    static List<int[]> fits(Valley v, Sight s) {
        for (int[] fact : s.facts) {
            if (fact[0] >= v.works.size()) {
                return null;
            }
        }
        List<int[]> all = new ArrayList<>();
        for (Person p : v.children()) {
            for (Work w : v.works) {
                Lived l = new Lived(v);
                l.deed(0, p.number, w.number, 9);
                for (int y = 0; y < s.years; y++) {
                    l.year();
                }
                boolean fit = true;
                for (int[] fact : s.facts) {
                    fit &= l.v.works.get(fact[0]).dug == fact[1];
                }
                int far = l.v.works.get(w.number).dug;
                while (l.year < 9) {
                    l.year();
                }
                if (fit) {
                    all.add(new int[] {p.number, w.number, far, l.v.works.get(w.number).dug == w.size ? 1 : 0});
                }
            }
        }
        return all;
    }

    static int fitsLook(Valley v, List<int[]> fits, int what) {
        if (fits == null) {
            return -2;
        }
        if (what == 0) {
            return fits.size();
        }
        Set<Integer> who = new TreeSet<>();
        for (int[] fit : fits) {
            who.add(fit[0]);
        }
        if (what == 1) {
            return who.size() == 1 ? who.iterator().next() : -1;
        }
        if (what == 2) {
            int best = -1;
            int least = 999;
            for (Work w : v.works) {
                Map<Integer, Integer> many = new HashMap<>();
                for (int[] fit : fits) {
                    many.merge(fit[1] == w.number ? fit[2] : 0, 1, Integer::sum);
                }
                int greatest = many.isEmpty() ? 999 : Collections.max(many.values());
                if (greatest < least) {
                    least = greatest;
                    best = w.number;
                }
            }
            return best;
        }
        if (what < 10 || what - 10 >= fits.size()) {
            return -2;
        }
        return 10 * fits.get(what - 10)[0] + fits.get(what - 10)[1];
    }

    // ---- further questions

    static Set<Person> elders(Person p) {
        Set<Person> all = new HashSet<>();
        for (Person q : p.parents) {
            all.add(q);
            all.addAll(elders(q));
        }
        return all;
    }

    static Set<Person> young(Valley v, Person p) {
        Set<Person> all = new HashSet<>();
        for (Person q : v.folk) {
            if (elders(q).contains(p)) {
                all.add(q);
            }
        }
        return all;
    }

    /** Fewest steps from each to each, by widening; 99: never. */
    static int[][] steps(Valley v) {
        int n = v.folk.size();
        int[][] d = new int[n][n];
        for (int i = 0; i < n; i++) {
            for (int j = 0; j < n; j++) {
                boolean next = v.folk.get(i).parents.contains(v.folk.get(j)) || v.folk.get(j).parents.contains(v.folk.get(i));
                d[i][j] = i == j ? 0 : next ? 1 : 99;
            }
        }
        for (int k = 0; k < n; k++) {
            for (int i = 0; i < n; i++) {
                for (int j = 0; j < n; j++) {
                    d[i][j] = Math.min(d[i][j], d[i][k] + d[k][j]);
                }
            }
        }
        for (int[] row : d) {
            for (int j = 0; j < n; j++) {
                row[j] = Math.min(row[j], 99);
            }
        }
        return d;
    }

    static int houses(Valley v, int what) {
        int[][] d = steps(v);
        Set<Set<Integer>> houses = new HashSet<>();
        int largest = 0;
        for (int[] row : d) {
            Set<Integer> house = new TreeSet<>();
            for (int j = 0; j < row.length; j++) {
                if (row[j] < 99) {
                    house.add(j);
                }
            }
            houses.add(house);
            largest = Math.max(largest, house.size());
        }
        int roots = 0;
        int orphans = 0;
        int cousins = 0;
        for (Person p : v.folk) {
            roots |= p.parents.isEmpty() ? 1 << p.number : 0;
            orphans |= p.young() && p.grandparents().isEmpty() ? 1 << p.number : 0;
            for (Person q : v.folk) {
                boolean elder = !Collections.disjoint(p.grandparents(), q.grandparents());
                cousins += p.number < q.number && elder && Collections.disjoint(p.parents, q.parents) ? 1 : 0;
            }
        }
        int[] burden = burden(v);
        int[] watch = watch(v);
        int[] all = {houses.size(), largest, roots, orphans, cousins, burden[0], burden[1], watch[0], watch[1]};
        return what >= 0 && what < all.length ? all[what] : -2;
    }

    private static int[] burden(Valley v) {
        int[] best = {-1, 0};
        for (Person p : v.folk) {
            int many = 0;
            for (Person c : v.children()) {
                many += c.grandparents().contains(p) ? 1 : 0;
            }
            if (many > best[1]) {
                best = new int[] {p.number, many};
            }
        }
        return best;
    }

    private static int[] watch(Valley v) {
        Set<Person> all = new HashSet<>();
        for (Person c : v.children()) {
            all.addAll(c.grandparents());
        }
        int[] best = {99, 0};
        for (int set = 0; set < 1 << v.folk.size(); set++) {
            Set<Person> seen = new HashSet<>();
            boolean young = true;
            for (Person p : v.folk) {
                if ((set & 1 << p.number) != 0) {
                    young &= p.young();
                    seen.addAll(p.grandparents());
                }
            }
            if (young && seen.equals(all) && Integer.bitCount(set) < best[0]) {
                best = new int[] {Integer.bitCount(set), set};
            }
        }
        return best;
    }

    static int most(Valley v, int n, int what) {
        if (what == 0) {
            int bits = 0;
            for (Work w : v.works) {
                bits |= v.folk.stream().noneMatch(p -> keeps(p, w, n, null)) ? 1 << w.number : 0;
            }
            return bits;
        }
        int best = 0;
        for (int set = 0; set < 1 << v.works.size(); set++) {
            List<Work> works = worksOf(v, set);
            if (say(v, works, n) != null) {
                int worth = works.stream().mapToInt(w -> w.worth).sum();
                best = Math.max(best, what == 1 ? works.size() : worth);
            }
        }
        return what == 1 || what == 2 ? best : -1;
    }

    static int lot(Valley v, int s, boolean which) {
        int best = -1;
        int bits = 0;
        for (int set = 0; set < 1 << v.works.size(); set++) {
            List<Work> works = worksOf(v, set);
            int worth = works.stream().mapToInt(w -> w.worth).sum();
            if (works.stream().mapToInt(w -> w.size).sum() <= s && worth > best) {
                best = worth;
                bits = set;
            }
        }
        return which ? bits : best;
    }

    static int heaps(Valley v, boolean halves) {
        if (halves) {
            int least = 9999;
            for (int set = 0; set < 1 << v.works.size(); set++) {
                int difference = 0;
                for (Work w : v.works) {
                    difference += (set & 1 << w.number) != 0 ? w.size : -w.size;
                }
                least = Math.min(least, Math.abs(difference));
            }
            return least;
        }
        int strength = v.folk.stream().mapToInt(p -> p.strength).sum();
        int size = v.works.stream().mapToInt(w -> w.size).sum();
        if (size == 0) {
            return 0;
        }
        int years = strength == 0 ? 100 : (size + strength - 1) / strength;
        return years <= 99 ? years : -1;
    }

    static int loss(Valley v, Person lost, int n) {
        int with = 0;
        int without = 0;
        for (Person p : v.folk) {
            for (Work w : v.works) {
                with += keeps(p, w, n, null) ? 1 : 0;
                without += keeps(p, w, n, lost) ? 1 : 0;
            }
        }
        return with - without;
    }

    static int wedding(Person a, Person b) {
        Fraction k = kinship(a, b);
        boolean far = k.top.multiply(BigInteger.valueOf(8)).compareTo(k.under) < 0;
        return a.age > 15 && b.age > 15 && far ? 1 : 0;
    }
}
