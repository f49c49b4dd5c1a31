/**
 * Valleys in which a child's promise binds its grandparents, the lives lived in them and the
 * sights had of them. All three are told as texts over a tape; the words in capitals below are
 * those of the document.
 *
 * <p>Every row is made with the object and used again by each call: a run of calls makes no
 * further objects.
 */
public final class PromiseValley {
    public static final int NONE = -1;

    private static final int NO_SUCH = -2;
    private static final int NO_DARE = -999;

    private static final int FOLK_MAX = 10;
    private static final int WORKS_MAX = 6;
    private static final int DEEDS_MAX = 40;
    private static final int FACTS_MAX = 8;
    private static final int PROMISES_MAX = 12;
    private static final int TEXTS_MAX = 2;
    private static final int IMAGES_MAX = 3;
    private static final int TAPE_MAX = 600;
    private static final int FEED_BYTES = 20;
    private static final int YEARS_MAX = 9;
    private static final int LAST_YEAR = 99;
    private static final int OLDEST = 99;
    private static final int DRAWS_MAX = 60;
    private static final int TURNS_MAX = 4;
    private static final int LOAD_MAX = 99;

    private static final int GROWN = 10;
    private static final int OF_AGE = 16;
    private static final int SIZE_MAX = 30;
    private static final int FIRST_BOUND = 20;

    private static final int FOLK_SETS = 1 << FOLK_MAX;
    private static final int WORK_SETS = 1 << WORKS_MAX;
    private static final int ALL_FOLK = FOLK_SETS - 1;

    private static final int SORTS = 3;
    private static final int VALLEYS = 0;
    private static final int LIVES = 1;
    private static final int SIGHTS = 2;

    private static final int DEED_PROMISE = 0;
    private static final int DEED_BORN = 1;
    private static final int DEED_COVER = 2;
    private static final int DEED_DIE = 3;
    private static final int DEED_YEAR = 4;

    private static final int OPEN = 0;
    private static final int KEPT = 1;
    private static final int LET_GO = 2;
    private static final int BROKEN = 3;
    private static final int FREE = 4;

    private final Told now;
    private final Told[] images;
    private final boolean[] imageTaken;
    private final Reader reader;
    private final Walk walk;
    private final Guesses guesses;
    private final Speakers speakers;
    private final Diggers diggers;
    private final Kin kin;
    private final Chance chance;

    public PromiseValley() {
        now = new Told();
        images = new Told[IMAGES_MAX];
        for (int k = 0; k < IMAGES_MAX; k++) {
            images[k] = new Told();
        }
        imageTaken = new boolean[IMAGES_MAX];
        reader = new Reader();
        walk = new Walk();
        guesses = new Guesses();
        speakers = new Speakers();
        diggers = new Diggers();
        kin = new Kin();
        chance = new Chance();
    }

    public int feed(int a, int b, int c, int d, int e) {
        if (now.length + FEED_BYTES > TAPE_MAX) {
            return NONE;
        }
        now.put(a);
        now.put(b);
        now.put(c);
        now.put(d);
        now.put(e);
        return now.length;
    }

    public int end(int n) {
        if (n < 0 || n > now.length) {
            return NONE;
        }
        now.length = n;
        return n;
    }

    public int text(int sort, int at) {
        int length = now.length;
        // the tape is taken, and is empty then, even if no text is read of it
        now.length = 0;
        now.fault = 0;
        now.place = NONE;
        int many = now.howMany(sort);
        boolean further = at == NONE;
        if (many == NO_SUCH || (further && many >= TEXTS_MAX)) {
            return NO_SUCH;
        }
        if (!further && (at < 0 || at >= many)) {
            return NO_SUCH;
        }
        reader.read(now.tape, length, sort);
        now.fault = reader.fault;
        now.place = reader.place;
        if (reader.fault != 0) {
            return NONE;
        }
        int to = further ? many : at;
        now.take(sort, to, reader);
        return to;
    }

    public int fault(int what) {
        if (what == 0) {
            return now.fault;
        }
        return what == 1 ? now.place : NONE;
    }

    public int valley(int valley, int what) {
        Valley v = now.valleyAt(valley);
        return v == null ? NONE : v.look(what);
    }

    public int deed(int life, int k, int what) {
        Life l = now.lifeAt(life);
        return l == null ? NO_SUCH : l.look(k, what);
    }

    public int stop(int valley, int life) {
        Valley v = now.valleyAt(valley);
        Life l = now.lifeAt(life);
        if (v == null || l == null) {
            return NONE;
        }
        return walk.live(v, l, l.deeds);
    }

    public int state(int valley, int life, int n, int what) {
        Valley v = now.valleyAt(valley);
        Life l = now.lifeAt(life);
        if (v == null || l == null || n < 0 || n > l.deeds) {
            return NO_SUCH;
        }
        if (walk.live(v, l, n) < n) {
            return NO_SUCH;
        }
        return walk.look(what);
    }

    public int keep(int valley, int folk, int work, int n) {
        Valley v = now.valleyAt(valley);
        if (v == null || !v.mayAskKeep(folk, work, n)) {
            return NONE;
        }
        return v.canKeep(folk, work, n) ? 1 : 0;
    }

    public int say(int valley, int works, int n, int k) {
        Valley v = now.valleyAt(valley);
        if (v == null || !isSpan(n) || (works & ~v.allWorks()) != 0) {
            return NONE;
        }
        speakers.hear(v, n);
        if (!speakers.canSay(works, ALL_FOLK)) {
            return NONE;
        }
        return k == NONE ? Integer.bitCount(works) : speakers.speakerOf(works, k);
    }

    public int dare(int valley, int n, boolean first) {
        Valley v = now.valleyAt(valley);
        if (v == null || n < 0 || n > TURNS_MAX) {
            return NO_DARE;
        }
        speakers.hear(v, YEARS_MAX);
        return first ? speakers.firstTake(v, n) : speakers.leadOf(v, n);
    }

    public int plan(int valley, int n, int what) {
        Valley v = now.valleyAt(valley);
        if (v == null || !isSpan(n) || what < 0 || what > 2) {
            return NONE;
        }
        diggers.makePlan(v, n);
        if (what == 0) {
            return diggers.planWorth;
        }
        return what == 1 ? diggers.planWorks : diggers.planFolk;
    }

    public long odds(int valley, int folk, int work, int n, boolean under) {
        Valley v = now.valleyAt(valley);
        if (v == null || !v.mayAskKeep(folk, work, n)) {
            return NONE;
        }
        chance.thatTheyLive(v, folk, work, n);
        return chance.part(under);
    }

    public long power(int valley, int folk, int work, int n, int elder, boolean under) {
        Valley v = now.valleyAt(valley);
        if (v == null || !v.mayAskKeep(folk, work, n) || !v.isGrandparent(elder, folk)) {
            return NONE;
        }
        chance.thatHeTurnsIt(v, folk, work, n, elder);
        return chance.part(under);
    }

    public long kinship(int valley, int a, int b, boolean under) {
        Valley v = now.valleyAt(valley);
        if (v == null || !v.hasFolk(a) || !v.hasFolk(b)) {
            return NONE;
        }
        chance.reduce(kin.nearness(v, a, b), Kin.WHOLE);
        return chance.part(under);
    }

    public int line(int valley, int k) {
        Valley v = now.valleyAt(valley);
        if (v == null) {
            return NONE;
        }
        kin.findLine(v);
        if (k == NONE) {
            return kin.lineLength;
        }
        return k >= 0 && k < kin.lineLength && k < FOLK_MAX ? kin.lineRow[k] : NONE;
    }

    public int sight(int sight, int what) {
        Sight s = now.sightAt(sight);
        return s == null ? NONE : s.look(what);
    }

    public int fits(int valley, int sight, int what) {
        if (!findFits(valley, sight)) {
            return NO_SUCH;
        }
        return guesses.look(what);
    }

    public int drawn(int valley, int seed, int n, int what) {
        Valley v = now.valleyAt(valley);
        if (v == null || n < 0 || n > DRAWS_MAX) {
            return NO_SUCH;
        }
        walk.liveBySeed(v, seed, n);
        return walk.look(what);
    }

    public int elders(int valley, int folk, boolean young) {
        Valley v = now.valleyAt(valley);
        if (v == null || !v.hasFolk(folk)) {
            return NONE;
        }
        return young ? kin.youngOf(v, folk) : kin.eldersOf(v, folk);
    }

    public int apart(int valley, int a, int b) {
        Valley v = now.valleyAt(valley);
        if (v == null || !v.hasFolk(a) || !v.hasFolk(b)) {
            return NONE;
        }
        return kin.stepsBetween(v, a, b);
    }

    public int houses(int valley, int what) {
        Valley v = now.valleyAt(valley);
        return v == null ? NO_SUCH : kin.look(v, what);
    }

    public int soon(int valley, int folk, int work) {
        Valley v = now.valleyAt(valley);
        if (v == null || !v.mayAskKeep(folk, work, 1)) {
            return NONE;
        }
        for (int n = 1; n <= YEARS_MAX; n++) {
            if (v.canKeep(folk, work, n)) {
                return n;
            }
        }
        return NONE;
    }

    public int most(int valley, int n, int what) {
        Valley v = now.valleyAt(valley);
        if (v == null || !isSpan(n) || what < 0 || what > 2) {
            return NONE;
        }
        speakers.hear(v, n);
        if (what == 0) {
            return speakers.neverKept(v);
        }
        return what == 1 ? speakers.mostWorks(v) : speakers.mostWorth(v);
    }

    public int lot(int valley, int s, boolean which) {
        Valley v = now.valleyAt(valley);
        if (v == null || s < 0 || s > LOAD_MAX) {
            return NONE;
        }
        return diggers.bestLot(v, s, which);
    }

    public int heaps(int valley, boolean halves) {
        Valley v = now.valleyAt(valley);
        if (v == null) {
            return NO_SUCH;
        }
        return halves ? diggers.leastDifference(v) : diggers.yearsForAll(v);
    }

    public int loss(int valley, int folk, int n) {
        Valley v = now.valleyAt(valley);
        if (v == null || !v.hasFolk(folk) || !isSpan(n)) {
            return NONE;
        }
        return v.couplesLostWithout(folk, n);
    }

    public int wedding(int valley, int a, int b) {
        Valley v = now.valleyAt(valley);
        if (v == null || a == b || !v.hasFolk(a) || !v.hasFolk(b)) {
            return NONE;
        }
        boolean ofAge = v.age[a] >= OF_AGE && v.age[b] >= OF_AGE;
        return ofAge && kin.nearness(v, a, b) < Kin.EIGHTH ? 1 : 0;
    }

    public int after(int valley, int life, int what) {
        Valley v = now.valleyAt(valley);
        Life l = now.lifeAt(life);
        if (v == null || l == null) {
            return NO_SUCH;
        }
        walk.live(v, l, l.deeds);
        return walk.lookBack(what);
    }

    public long share(int valley, int sight, int folk, boolean under) {
        Valley v = now.valleyAt(valley);
        if (v == null || !v.hasFolk(folk) || !findFits(valley, sight) || guesses.many == 0) {
            return NONE;
        }
        chance.reduce(guesses.manyBy(folk), guesses.many);
        return chance.part(under);
    }

    public int later(int valley, int sight) {
        return findFits(valley, sight) ? guesses.doneLater : NO_SUCH;
    }

    public int count(int sort) {
        return now.howMany(sort);
    }

    public boolean image(int k) {
        if (k < 0 || k >= IMAGES_MAX) {
            return false;
        }
        images[k].copyFrom(now);
        imageTaken[k] = true;
        return true;
    }

    public boolean again(int k) {
        if (k < 0 || k >= IMAGES_MAX || !imageTaken[k]) {
            return false;
        }
        now.copyFrom(images[k]);
        return true;
    }

    private static boolean isSpan(int n) {
        return n >= 1 && n <= YEARS_MAX;
    }

    private boolean findFits(int valley, int sight) {
        Valley v = now.valleyAt(valley);
        Sight s = now.sightAt(sight);
        return v != null && s != null && guesses.find(v, s, walk);
    }

    /** All that is told: the tape, what came of the latest text, and the texts that were taken. */
    private static final class Told {
        final int[] tape;
        int length;
        int fault;
        int place;
        final Valley[] valleys;
        final Life[] lives;
        final Sight[] sights;
        final int[] many;

        Told() {
            tape = new int[TAPE_MAX];
            length = 0;
            fault = 0;
            place = NONE;
            valleys = new Valley[TEXTS_MAX];
            lives = new Life[TEXTS_MAX];
            sights = new Sight[TEXTS_MAX];
            for (int k = 0; k < TEXTS_MAX; k++) {
                valleys[k] = new Valley();
                lives[k] = new Life();
                sights[k] = new Sight();
            }
            many = new int[SORTS];
        }

        void copyFrom(Told other) {
            if (other == null) {
                return;
            }
            System.arraycopy(other.tape, 0, tape, 0, TAPE_MAX);
            length = other.length;
            fault = other.fault;
            place = other.place;
            for (int k = 0; k < TEXTS_MAX; k++) {
                valleys[k].copyFrom(other.valleys[k]);
                lives[k].copyFrom(other.lives[k]);
                sights[k].copyFrom(other.sights[k]);
            }
            System.arraycopy(other.many, 0, many, 0, SORTS);
        }

        void put(int number) {
            for (int shift = 24; shift >= 0; shift -= 8) {
                if (length >= 0 && length < TAPE_MAX) {
                    tape[length] = (number >>> shift) & 255;
                    length++;
                }
            }
        }

        int howMany(int sort) {
            return sort >= 0 && sort < SORTS ? many[sort] : NO_SUCH;
        }

        private boolean has(int sort, int k) {
            return k >= 0 && k < TEXTS_MAX && k < howMany(sort);
        }

        Valley valleyAt(int k) {
            return has(VALLEYS, k) ? valleys[k] : null;
        }

        Life lifeAt(int k) {
            return has(LIVES, k) ? lives[k] : null;
        }

        Sight sightAt(int k) {
            return has(SIGHTS, k) ? sights[k] : null;
        }

        /** What the reader has read becomes the k-th of its sort, at most one more than there were. */
        void take(int sort, int k, Reader reader) {
            if (reader == null || k < 0 || k >= TEXTS_MAX || sort < 0 || sort >= SORTS) {
                return;
            }
            if (sort == VALLEYS) {
                valleys[k].copyFrom(reader.valley);
            } else if (sort == LIVES) {
                lives[k].copyFrom(reader.life);
            } else {
                sights[k].copyFrom(reader.sight);
            }
            if (k >= many[sort]) {
                many[sort] = k + 1;
            }
        }
    }

    /** A VALLEY as told. */
    private static final class Valley {
        int folk;
        int works;
        int bound;
        final int[] age;
        final int[] strength;
        final int[] parents;
        final int[] grand;
        final int[] help;
        final int[] size;
        final int[] worth;

        Valley() {
            age = new int[FOLK_MAX];
            strength = new int[FOLK_MAX];
            parents = new int[FOLK_MAX];
            grand = new int[FOLK_MAX];
            help = new int[FOLK_MAX];
            size = new int[WORKS_MAX];
            worth = new int[WORKS_MAX];
            folk = 0;
            works = 0;
            bound = FIRST_BOUND;
        }

        void clear() {
            folk = 0;
            works = 0;
            bound = FIRST_BOUND;
            for (int f = 0; f < FOLK_MAX; f++) {
                parents[f] = 0;
            }
        }

        void copyFrom(Valley other) {
            if (other == null) {
                return;
            }
            folk = other.folk;
            works = other.works;
            bound = other.bound;
            System.arraycopy(other.age, 0, age, 0, FOLK_MAX);
            System.arraycopy(other.strength, 0, strength, 0, FOLK_MAX);
            System.arraycopy(other.parents, 0, parents, 0, FOLK_MAX);
            System.arraycopy(other.grand, 0, grand, 0, FOLK_MAX);
            System.arraycopy(other.help, 0, help, 0, FOLK_MAX);
            System.arraycopy(other.size, 0, size, 0, WORKS_MAX);
            System.arraycopy(other.worth, 0, worth, 0, WORKS_MAX);
        }

        /** Once all lines are told: whom each FOLK binds, and how strong these are together. */
        void settle() {
            for (int f = 0; f < FOLK_MAX; f++) {
                grand[f] = 0;
                help[f] = 0;
                for (int p = 0; p < FOLK_MAX; p++) {
                    if ((parents[f] >> p & 1) != 0) {
                        grand[f] |= parents[p];
                    }
                }
            }
            for (int f = 0; f < FOLK_MAX; f++) {
                for (int g = 0; g < folk && g < FOLK_MAX; g++) {
                    if ((grand[f] >> g & 1) != 0) {
                        help[f] += strength[g];
                    }
                }
            }
        }

        boolean hasFolk(int f) {
            return f >= 0 && f < folk && f < FOLK_MAX;
        }

        boolean hasWork(int w) {
            return w >= 0 && w < works && w < WORKS_MAX;
        }

        int allWorks() {
            return (1 << works) - 1;
        }

        boolean isChild(int f) {
            return hasFolk(f) && age[f] < GROWN;
        }

        boolean isGrandparent(int g, int f) {
            return hasFolk(g) && hasFolk(f) && (grand[f] >> g & 1) != 0;
        }

        boolean mayAskKeep(int f, int w, int n) {
            return isChild(f) && hasWork(w) && n >= 1 && n <= YEARS_MAX;
        }

        boolean canKeep(int f, int w, int n) {
            return isChild(f) && hasWork(w) && n * help[f] >= size[w];
        }

        int totalStrength() {
            int total = 0;
            for (int f = 0; f < folk && f < FOLK_MAX; f++) {
                total += strength[f];
            }
            return total;
        }

        int couplesLostWithout(int lost, int n) {
            int couples = 0;
            for (int f = 0; f < folk && f < FOLK_MAX; f++) {
                if (isGrandparent(lost, f)) {
                    for (int w = 0; w < works && w < WORKS_MAX; w++) {
                        boolean without = n * (help[f] - strength[lost]) >= size[w];
                        if (canKeep(f, w, n) && !without) {
                            couples++;
                        }
                    }
                }
            }
            return couples;
        }

        int look(int what) {
            if (what == 0) {
                return folk;
            }
            if (what == 1) {
                return works;
            }
            if (what == 2) {
                return bound;
            }
            if (hasFolk(what - 10)) {
                return age[what - 10];
            }
            if (hasFolk(what - 20)) {
                return strength[what - 20];
            }
            if (hasFolk(what - 30)) {
                return parents[what - 30];
            }
            if (hasFolk(what - 40)) {
                return grand[what - 40];
            }
            if (hasWork(what - 50)) {
                return size[what - 50];
            }
            return hasWork(what - 60) ? worth[what - 60] : NONE;
        }
    }

    /** A LIFE as told: DEEDS, each a kind and up to three numbers. */
    private static final class Life {
        int deeds;
        final int[] kind;
        final int[] first;
        final int[] second;
        final int[] third;

        Life() {
            kind = new int[DEEDS_MAX];
            first = new int[DEEDS_MAX];
            second = new int[DEEDS_MAX];
            third = new int[DEEDS_MAX];
            deeds = 0;
        }

        void copyFrom(Life other) {
            if (other == null) {
                return;
            }
            deeds = other.deeds;
            System.arraycopy(other.kind, 0, kind, 0, DEEDS_MAX);
            System.arraycopy(other.first, 0, first, 0, DEEDS_MAX);
            System.arraycopy(other.second, 0, second, 0, DEEDS_MAX);
            System.arraycopy(other.third, 0, third, 0, DEEDS_MAX);
        }

        boolean hasDeed(int k) {
            return k >= 0 && k < deeds && k < DEEDS_MAX;
        }

        int look(int k, int what) {
            if (k == NONE && what == 0) {
                return deeds;
            }
            if (!hasDeed(k) || what < 0 || what > 3) {
                return NO_SUCH;
            }
            if (what == 0) {
                return kind[k];
            }
            if (what == 1) {
                return first[k];
            }
            return what == 2 ? second[k] : third[k];
        }
    }

    /** A SIGHT as told. */
    private static final class Sight {
        int years;
        int facts;
        final int[] work;
        final int[] far;

        Sight() {
            work = new int[FACTS_MAX];
            far = new int[FACTS_MAX];
            years = 1;
            facts = 0;
        }

        void copyFrom(Sight other) {
            if (other == null) {
                return;
            }
            years = other.years;
            facts = other.facts;
            System.arraycopy(other.work, 0, work, 0, FACTS_MAX);
            System.arraycopy(other.far, 0, far, 0, FACTS_MAX);
        }

        boolean hasFact(int k) {
            return k >= 0 && k < facts && k < FACTS_MAX;
        }

        int look(int what) {
            if (what == 0) {
                return years;
            }
            if (what == 1) {
                return facts;
            }
            if (hasFact(what - 10)) {
                return work[what - 10];
            }
            return hasFact(what - 20) ? far[what - 20] : NONE;
        }
    }

    /** Reads a tape as a text of one sort into a VALLEY, LIFE or SIGHT of its own. */
    private static final class Reader {
        private static final int TOKEN_END = 0;
        private static final int TOKEN_WORD = 1;
        private static final int TOKEN_NUMBER = 2;
        private static final int TOKEN_STOP = 3;
        private static final int TOKEN_WRONG = 4;

        private static final int LINE_FOLK = 0;
        private static final int LINE_CHILD = 1;
        private static final int LINE_WORK = 2;
        private static final int LINE_BOUND = 3;

        private static final int LINE_YEARS = 0;
        private static final int LINE_DUG = 1;

        private static final int NUMBERS_MAX = 3;

        private static final int FAULT_FORM = 1;
        private static final int FAULT_NUMBER = 2;
        private static final int FAULT_TOO_MANY = 3;
        private static final int FAULT_NOT_THERE = 4;
        private static final int FAULT_PARENTS = 5;

        final Valley valley;
        final Life life;
        final Sight sight;
        int fault;
        int place;

        private int[] bytes;
        private int length;
        private int sort;
        private int start;
        private int next;
        private int toldOf;
        private final int[] numbers;
        private final int[] places;

        Reader() {
            valley = new Valley();
            life = new Life();
            sight = new Sight();
            fault = 0;
            place = NONE;
            bytes = null;
            numbers = new int[NUMBERS_MAX];
            places = new int[NUMBERS_MAX];
        }

        void read(int[] tape, int tapeLength, int textSort) {
            bytes = tape;
            length = tape == null ? 0 : Math.max(0, Math.min(tapeLength, tape.length));
            sort = textSort;
            fault = 0;
            place = NONE;
            next = 0;
            toldOf = 0;
            valley.clear();
            life.deeds = 0;
            sight.years = 1;
            sight.facts = 0;
            boolean going = true;
            // Each line takes a byte at least, so the tape's length bounds the lines.
            for (int line = 0; going && line <= length; line++) {
                going = readLine();
            }
            if (fault == 0 && sort == VALLEYS) {
                judgeValley();
                valley.settle();
            }
        }

        /** Whether there may be a further line: not behind the end or a token out of form. */
        private boolean readLine() {
            int token = nextToken();
            if (token == TOKEN_END) {
                return false;
            }
            int linePlace = start;
            int kind = token == TOKEN_WORD ? kindOfLine() : NONE;
            if (kind == NONE) {
                return outOfForm();
            }
            int many = numbersOf(kind);
            for (int i = 0; i < NUMBERS_MAX; i++) {
                numbers[i] = NONE;
                if (i < many) {
                    if (nextToken() != TOKEN_NUMBER) {
                        return outOfForm();
                    }
                    numbers[i] = numberRead();
                    places[i] = start;
                }
            }
            if (nextToken() != TOKEN_STOP) {
                return outOfForm();
            }
            judgeLine(kind, many, linePlace);
            if (fault == 0) {
                tellLine(kind);
            }
            return true;
        }

        /** A text out of form has this FAULT alone, so it strikes one found ahead of it. */
        private boolean outOfForm() {
            fault = FAULT_FORM;
            place = start;
            return false;
        }

        private int byteAt(int at) {
            return bytes != null && at >= 0 && at < length && at < bytes.length ? bytes[at] : NONE;
        }

        private static boolean isLetter(int b) {
            return b >= 'a' && b <= 'z';
        }

        private static boolean isDigit(int b) {
            return b >= '0' && b <= '9';
        }

        private int nextToken() {
            while (next < length && (byteAt(next) == ' ' || byteAt(next) == '\n')) {
                next++;
            }
            start = next;
            if (next >= length) {
                return TOKEN_END;
            }
            int b = byteAt(next);
            next++;
            if (b == ';') {
                return TOKEN_STOP;
            }
            if (isLetter(b)) {
                while (next < length && isLetter(byteAt(next))) {
                    next++;
                }
                return TOKEN_WORD;
            }
            if (isDigit(b)) {
                while (next < length && isDigit(byteAt(next))) {
                    next++;
                }
                return next - start <= 2 ? TOKEN_NUMBER : TOKEN_WRONG;
            }
            return TOKEN_WRONG;
        }

        private int numberRead() {
            int value = 0;
            for (int at = start; at < next; at++) {
                value = value * 10 + (byteAt(at) - '0');
            }
            return value;
        }

        private boolean isWord(String word) {
            if (word == null || next - start != word.length()) {
                return false;
            }
            for (int i = 0; i < word.length(); i++) {
                if (byteAt(start + i) != word.charAt(i)) {
                    return false;
                }
            }
            return true;
        }

        private int kindOfLine() {
            if (sort == VALLEYS) {
                return kindOfValleyLine();
            }
            if (sort == LIVES) {
                return kindOfDeed();
            }
            if (isWord("years")) {
                return LINE_YEARS;
            }
            return isWord("dug") ? LINE_DUG : NONE;
        }

        private int kindOfValleyLine() {
            if (isWord("folk")) {
                return LINE_FOLK;
            }
            if (isWord("child")) {
                return LINE_CHILD;
            }
            if (isWord("work")) {
                return LINE_WORK;
            }
            return isWord("bound") ? LINE_BOUND : NONE;
        }

        private int kindOfDeed() {
            if (isWord("promise")) {
                return DEED_PROMISE;
            }
            if (isWord("born")) {
                return DEED_BORN;
            }
            if (isWord("cover")) {
                return DEED_COVER;
            }
            if (isWord("die")) {
                return DEED_DIE;
            }
            return isWord("year") ? DEED_YEAR : NONE;
        }

        private int numbersOf(int kind) {
            if (sort == VALLEYS) {
                return kind == LINE_BOUND ? 1 : 2;
            }
            if (sort == SIGHTS) {
                return kind == LINE_YEARS ? 1 : 2;
            }
            if (kind == DEED_PROMISE) {
                return 3;
            }
            if (kind == DEED_BORN) {
                return 2;
            }
            return kind == DEED_YEAR ? 0 : 1;
        }

        /** The line's own place comes ahead of its numbers' places: the first found stays. */
        private void judgeLine(int kind, int many, int linePlace) {
            if (isOneTooMany(kind)) {
                note(FAULT_TOO_MANY, linePlace);
            }
            for (int i = 0; i < many && i < NUMBERS_MAX; i++) {
                if (!canBe(kind, i)) {
                    note(FAULT_NUMBER, places[i]);
                }
            }
        }

        private void note(int found, int at) {
            if (fault == 0) {
                fault = found;
                place = at;
            }
        }

        private boolean isOneTooMany(int kind) {
            if (sort == LIVES) {
                return life.deeds >= DEEDS_MAX;
            }
            if (sort == SIGHTS) {
                return kind == LINE_DUG && sight.facts >= FACTS_MAX;
            }
            if (kind == LINE_FOLK) {
                return valley.folk >= FOLK_MAX;
            }
            return kind == LINE_WORK && valley.works >= WORKS_MAX;
        }

        private boolean canBe(int kind, int i) {
            int value = i >= 0 && i < NUMBERS_MAX ? numbers[i] : NONE;
            if (sort == VALLEYS) {
                return canBeInValley(kind, i, value);
            }
            if (sort == LIVES) {
                return canBeInDeed(kind, i, value);
            }
            if (kind == LINE_YEARS) {
                return value >= 1 && value <= YEARS_MAX;
            }
            return i == 0 ? value < WORKS_MAX : value <= SIZE_MAX;
        }

        private boolean canBeInValley(int kind, int i, int value) {
            switch (kind) {
                case LINE_FOLK:
                    return i == 0 || value <= 9;
                case LINE_CHILD:
                    return i == 0 ? value < FOLK_MAX : value < numbers[0];
                case LINE_WORK:
                    return i == 0 ? value >= 1 && value <= SIZE_MAX : value <= 20;
                default:
                    return value >= 1 && value <= SIZE_MAX;
            }
        }

        private boolean canBeInDeed(int kind, int i, int value) {
            if (i == 0) {
                return value < FOLK_MAX;
            }
            if (kind == DEED_BORN) {
                return value <= 9;
            }
            return i == 1 ? value < WORKS_MAX : value >= 1 && value <= YEARS_MAX;
        }

        private void tellLine(int kind) {
            if (sort == VALLEYS) {
                tellOfValley(kind);
            } else if (sort == LIVES) {
                tellDeed(kind);
            } else if (kind == LINE_YEARS) {
                sight.years = numbers[0];
            } else if (sight.facts >= 0 && sight.facts < FACTS_MAX) {
                sight.work[sight.facts] = numbers[0];
                sight.far[sight.facts] = numbers[1];
                sight.facts++;
            }
        }

        private void tellOfValley(int kind) {
            int one = numbers[0];
            int two = numbers[1];
            if (kind == LINE_BOUND) {
                valley.bound = one;
            } else if (kind == LINE_CHILD) {
                if (one >= 0 && one < FOLK_MAX && two >= 0 && two < one) {
                    valley.parents[one] |= 1 << two;
                    toldOf |= 1 << one;
                }
            } else if (kind == LINE_FOLK) {
                if (valley.folk >= 0 && valley.folk < FOLK_MAX) {
                    valley.age[valley.folk] = one;
                    valley.strength[valley.folk] = two;
                    valley.folk++;
                }
            } else if (valley.works >= 0 && valley.works < WORKS_MAX) {
                valley.size[valley.works] = one;
                valley.worth[valley.works] = two;
                valley.works++;
            }
        }

        private void tellDeed(int kind) {
            int k = life.deeds;
            if (k >= 0 && k < DEEDS_MAX) {
                life.kind[k] = kind;
                life.first[k] = numbers[0];
                life.second[k] = numbers[1];
                life.third[k] = numbers[2];
                life.deeds++;
            }
        }

        /** A PARENT is of less number than its FOLK, so it is enough to look for the FOLK. */
        private void judgeValley() {
            for (int f = 0; f < FOLK_MAX; f++) {
                if ((toldOf >> f & 1) != 0 && f >= valley.folk) {
                    note(FAULT_NOT_THERE, length);
                }
            }
            for (int f = 0; f < FOLK_MAX; f++) {
                if (Integer.bitCount(valley.parents[f]) > 2) {
                    note(FAULT_PARENTS, length);
                }
            }
        }
    }

    /** A LIFE as it is lived in a VALLEY, DEED by DEED. */
    private static final class Walk {
        private int year;
        private int folk;
        private int works;
        private int bound;
        private int living;
        private int covered;
        private int promises;
        private int firstKept;
        private int seed;
        private final int[] age;
        private final int[] strength;
        private final int[] parents;
        private final int[] grand;
        private final int[] dugBy;
        private final int[] size;
        private final int[] dug;
        private final int[] promiser;
        private final int[] promised;
        private final int[] due;
        private final int[] fate;

        Walk() {
            age = new int[FOLK_MAX];
            strength = new int[FOLK_MAX];
            parents = new int[FOLK_MAX];
            grand = new int[FOLK_MAX];
            dugBy = new int[FOLK_MAX];
            size = new int[WORKS_MAX];
            dug = new int[WORKS_MAX];
            promiser = new int[PROMISES_MAX];
            promised = new int[PROMISES_MAX];
            due = new int[PROMISES_MAX];
            fate = new int[PROMISES_MAX];
        }

        void begin(Valley v) {
            if (v == null) {
                return;
            }
            year = 0;
            folk = Math.max(0, Math.min(v.folk, FOLK_MAX));
            works = Math.max(0, Math.min(v.works, WORKS_MAX));
            bound = v.bound;
            living = (1 << folk) - 1;
            covered = 0;
            promises = 0;
            firstKept = NONE;
            System.arraycopy(v.age, 0, age, 0, FOLK_MAX);
            System.arraycopy(v.strength, 0, strength, 0, FOLK_MAX);
            System.arraycopy(v.parents, 0, parents, 0, FOLK_MAX);
            System.arraycopy(v.grand, 0, grand, 0, FOLK_MAX);
            System.arraycopy(v.size, 0, size, 0, WORKS_MAX);
            for (int f = 0; f < FOLK_MAX; f++) {
                dugBy[f] = 0;
            }
            for (int w = 0; w < WORKS_MAX; w++) {
                dug[w] = 0;
            }
        }

        /** Lives the first n DEEDS, or those ahead of STOP if it comes first: how many. */
        int live(Valley v, Life life, int n) {
            begin(v);
            if (life == null) {
                return 0;
            }
            for (int k = 0; k < n && k < life.deeds && k < DEEDS_MAX; k++) {
                if (!tryDeed(life.kind[k], life.first[k], life.second[k], life.third[k])) {
                    return k;
                }
                if (firstKept == NONE && manyOfFate(KEPT) > 0) {
                    firstKept = k;
                }
            }
            return Math.max(0, Math.min(n, life.deeds));
        }

        void liveBySeed(Valley v, int firstSeed, int n) {
            begin(v);
            seed = firstSeed;
            for (int i = 0; i < n && i < DRAWS_MAX; i++) {
                drawDeed();
            }
        }

        private int draw(int below) {
            seed = seed * 1103515245 + 12345;
            return below > 0 ? (seed >>> 16) % below : 0;
        }

        private void drawDeed() {
            int kind = draw(8);
            if (kind >= 5) {
                tryDeed(DEED_YEAR, NONE, NONE, NONE);
                return;
            }
            if (folk == 0 || (kind <= 1 && works == 0)) {
                return;
            }
            int f = draw(folk);
            if (kind <= 1) {
                int w = draw(works);
                tryDeed(DEED_PROMISE, f, w, 1 + draw(9));
            } else if (kind == 2) {
                tryDeed(DEED_COVER, f, NONE, NONE);
            } else if (kind == 3) {
                tryDeed(DEED_DIE, f, NONE, NONE);
            } else {
                tryDeed(DEED_BORN, f, draw(10), NONE);
            }
        }

        /** Does a DEED, if it may be: whether it was done. */
        boolean tryDeed(int kind, int one, int two, int three) {
            switch (kind) {
                case DEED_PROMISE:
                    return makePromise(one, two, three);
                case DEED_BORN:
                    return bear(one, two);
                case DEED_COVER:
                    return coverMouth(one);
                case DEED_DIE:
                    return letDie(one);
                case DEED_YEAR:
                    return passYear();
                default:
                    return false;
            }
        }

        private boolean hasFolk(int f) {
            return f >= 0 && f < folk && f < FOLK_MAX;
        }

        private boolean hasWork(int w) {
            return w >= 0 && w < works && w < WORKS_MAX;
        }

        private boolean hasPromise(int p) {
            return p >= 0 && p < promises && p < PROMISES_MAX;
        }

        private boolean lives(int f) {
            return hasFolk(f) && (living >> f & 1) != 0;
        }

        boolean isDone(int w) {
            return hasWork(w) && dug[w] >= size[w];
        }

        int dugAt(int w) {
            return hasWork(w) ? dug[w] : 0;
        }

        void passYears(int years) {
            for (int y = 0; y < years && y < YEARS_MAX; y++) {
                passYear();
            }
        }

        private boolean makePromise(int f, int w, int years) {
            if (!lives(f) || age[f] >= GROWN || (covered >> f & 1) != 0) {
                return false;
            }
            if (!hasWork(w) || isDone(w) || promises < 0 || promises >= PROMISES_MAX) {
                return false;
            }
            promiser[promises] = f;
            promised[promises] = w;
            due[promises] = year + years;
            fate[promises] = (grand[f] & living) == 0 ? FREE : OPEN;
            promises++;
            return true;
        }

        private boolean coverMouth(int f) {
            if (!lives(f) || age[f] >= GROWN) {
                return false;
            }
            covered |= 1 << f;
            return true;
        }

        private boolean letDie(int f) {
            if (!lives(f)) {
                return false;
            }
            living &= ~(1 << f);
            for (int p = 0; p < promises && p < PROMISES_MAX; p++) {
                if (fate[p] == OPEN && promiser[p] == f) {
                    fate[p] = LET_GO;
                }
            }
            return true;
        }

        private boolean bear(int parent, int born) {
            if (!lives(parent) || age[parent] < OF_AGE || folk >= FOLK_MAX) {
                return false;
            }
            age[folk] = 0;
            strength[folk] = born;
            parents[folk] = 1 << parent;
            grand[folk] = parents[parent];
            living |= 1 << folk;
            folk++;
            return true;
        }

        private boolean passYear() {
            if (year >= LAST_YEAR) {
                return false;
            }
            for (int f = 0; f < folk && f < FOLK_MAX; f++) {
                int p = lives(f) ? firstDue(f) : NONE;
                if (hasPromise(p)) {
                    digAt(promised[p], f);
                }
            }
            for (int f = 0; f < folk && f < FOLK_MAX; f++) {
                if (lives(f) && age[f] < OLDEST) {
                    age[f]++;
                }
            }
            year++;
            covered = 0;
            for (int p = 0; p < promises && p < PROMISES_MAX; p++) {
                if (fate[p] == OPEN) {
                    fate[p] = fateInNewYear(p);
                }
            }
            return true;
        }

        private boolean owes(int f, int p) {
            if (p < 0 || p >= PROMISES_MAX || fate[p] != OPEN) {
                return false;
            }
            int child = promiser[p];
            return child >= 0 && child < FOLK_MAX && (grand[child] >> f & 1) != 0;
        }

        private int firstDue(int f) {
            int first = NONE;
            int firstYear = 0;
            for (int p = 0; p < promises && p < PROMISES_MAX; p++) {
                if (owes(f, p) && (first == NONE || due[p] < firstYear)) {
                    first = p;
                    firstYear = due[p];
                }
            }
            return first;
        }

        private void digAt(int w, int f) {
            if (!hasWork(w) || !hasFolk(f)) {
                return;
            }
            int more = Math.min(strength[f], size[w] - dug[w]);
            dug[w] += more;
            dugBy[f] += more;
            if (dug[w] < size[w]) {
                return;
            }
            for (int p = 0; p < promises && p < PROMISES_MAX; p++) {
                if (fate[p] == OPEN && promised[p] == w) {
                    fate[p] = KEPT;
                }
            }
        }

        private int fateInNewYear(int p) {
            if (!hasPromise(p)) {
                return OPEN;
            }
            int f = promiser[p];
            int w = promised[p];
            boolean grown = hasFolk(f) && age[f] >= GROWN;
            boolean big = hasWork(w) && size[w] >= bound;
            if (grown && !big) {
                return LET_GO;
            }
            return due[p] <= year ? BROKEN : OPEN;
        }

        int look(int what) {
            switch (what) {
                case 0:
                    return year;
                case 1:
                    return folk;
                case 2:
                    return living;
                case 3:
                    return covered;
                case 4:
                    return promises;
                case 5:
                    return doneWorks();
                default:
                    return lookAtOne(what);
            }
        }

        private int lookAtOne(int what) {
            if (hasFolk(what - 10)) {
                return age[what - 10];
            }
            if (hasFolk(what - 20)) {
                return owedBy(what - 20);
            }
            if (hasWork(what - 30)) {
                return dug[what - 30];
            }
            if (hasPromise(what - 40)) {
                return fate[what - 40];
            }
            return hasPromise(what - 60) ? due[what - 60] : NO_SUCH;
        }

        private int doneWorks() {
            int bits = 0;
            for (int w = 0; w < works && w < WORKS_MAX; w++) {
                if (isDone(w)) {
                    bits |= 1 << w;
                }
            }
            return bits;
        }

        private int owedBy(int f) {
            int bits = 0;
            for (int p = 0; p < promises && p < PROMISES_MAX; p++) {
                if (lives(f) && owes(f, p)) {
                    bits |= 1 << p;
                }
            }
            return bits;
        }

        int lookBack(int what) {
            if (what == 0) {
                return firstKept;
            }
            if (what == 1) {
                return bestHand();
            }
            if (what == 2) {
                return bestTalker();
            }
            return what >= 10 && what <= 10 + FREE ? manyOfFate(what - 10) : NO_SUCH;
        }

        private int bestHand() {
            int best = NONE;
            int most = 0;
            for (int f = 0; f < folk && f < FOLK_MAX; f++) {
                if (dugBy[f] > most) {
                    most = dugBy[f];
                    best = f;
                }
            }
            return best;
        }

        private int bestTalker() {
            int best = NONE;
            int most = 0;
            for (int f = 0; f < folk && f < FOLK_MAX; f++) {
                int made = 0;
                for (int p = 0; p < promises && p < PROMISES_MAX; p++) {
                    if (promiser[p] == f) {
                        made++;
                    }
                }
                if (made > most) {
                    most = made;
                    best = f;
                }
            }
            return best;
        }

        private int manyOfFate(int sought) {
            int many = 0;
            for (int p = 0; p < promises && p < PROMISES_MAX; p++) {
                if (fate[p] == sought) {
                    many++;
                }
            }
            return many;
        }
    }

    /** The PROMISES that FIT a SIGHT in a VALLEY. */
    private static final class Guesses {
        private static final int GUESSES_MAX = FOLK_MAX * WORKS_MAX;

        int many;
        int doneLater;
        private int works;
        private final int[] folk;
        private final int[] work;
        private final int[] far;
        private final int[] alike;

        Guesses() {
            folk = new int[GUESSES_MAX];
            work = new int[GUESSES_MAX];
            far = new int[GUESSES_MAX];
            alike = new int[SIZE_MAX + 1];
        }

        /** Whether every WORK told of is there; if so, all that FIT are found. */
        boolean find(Valley v, Sight s, Walk walk) {
            many = 0;
            doneLater = 0;
            works = 0;
            if (v == null || s == null || walk == null) {
                return false;
            }
            works = v.works;
            for (int k = 0; k < s.facts && k < FACTS_MAX; k++) {
                if (!v.hasWork(s.work[k])) {
                    return false;
                }
            }
            for (int f = 0; f < v.folk && f < FOLK_MAX; f++) {
                for (int w = 0; w < v.works && w < WORKS_MAX; w++) {
                    walk.begin(v);
                    boolean made = walk.tryDeed(DEED_PROMISE, f, w, YEARS_MAX);
                    walk.passYears(s.years);
                    if (made && agrees(s, walk)) {
                        add(f, w, walk.dugAt(w));
                        walk.passYears(YEARS_MAX - s.years);
                        doneLater += walk.isDone(w) ? 1 : 0;
                    }
                }
            }
            return true;
        }

        private static boolean agrees(Sight s, Walk walk) {
            for (int k = 0; k < s.facts && k < FACTS_MAX; k++) {
                if (walk.dugAt(s.work[k]) != s.far[k]) {
                    return false;
                }
            }
            return true;
        }

        private void add(int f, int w, int dug) {
            if (many >= 0 && many < GUESSES_MAX) {
                folk[many] = f;
                work[many] = w;
                far[many] = dug;
                many++;
            }
        }

        private boolean has(int k) {
            return k >= 0 && k < many && k < GUESSES_MAX;
        }

        int look(int what) {
            if (what == 0) {
                return many;
            }
            if (what == 1) {
                return sureFolk();
            }
            if (what == 2) {
                return workToAsk();
            }
            int k = what - 10;
            return has(k) ? 10 * folk[k] + work[k] : NO_SUCH;
        }

        int manyBy(int f) {
            int by = 0;
            for (int k = 0; k < many && k < GUESSES_MAX; k++) {
                if (folk[k] == f) {
                    by++;
                }
            }
            return by;
        }

        private int sureFolk() {
            return has(0) && manyBy(folk[0]) == many ? folk[0] : NONE;
        }

        private int workToAsk() {
            int best = NONE;
            int least = GUESSES_MAX + 1;
            for (int w = 0; many > 0 && w < works; w++) {
                int greatest = greatestAlike(w);
                if (greatest < least) {
                    least = greatest;
                    best = w;
                }
            }
            return best;
        }

        private int greatestAlike(int w) {
            for (int d = 0; d <= SIZE_MAX; d++) {
                alike[d] = 0;
            }
            int greatest = 0;
            for (int k = 0; k < many && k < GUESSES_MAX; k++) {
                int d = work[k] == w ? far[k] : 0;
                if (d >= 0 && d <= SIZE_MAX) {
                    alike[d]++;
                    greatest = Math.max(greatest, alike[d]);
                }
            }
            return greatest;
        }
    }

    /** Which WORKS can be said by unlike FOLK that can KEEP them, and the DARE about that. */
    private static final class Speakers {
        private static final int TAKE_NONE = 6;

        private final int[] keepers;
        private final int[] keepersOfSet;

        Speakers() {
            keepers = new int[WORKS_MAX];
            keepersOfSet = new int[WORK_SETS];
        }

        void hear(Valley v, int n) {
            if (v == null) {
                return;
            }
            for (int w = 0; w < WORKS_MAX; w++) {
                keepers[w] = 0;
                for (int f = 0; f < v.folk && f < FOLK_MAX; f++) {
                    if (v.canKeep(f, w, n)) {
                        keepers[w] |= 1 << f;
                    }
                }
            }
            for (int set = 0; set < WORK_SETS; set++) {
                keepersOfSet[set] = 0;
                for (int w = 0; w < WORKS_MAX; w++) {
                    if ((set >> w & 1) != 0) {
                        keepersOfSet[set] |= keepers[w];
                    }
                }
            }
        }

        /** By Hall's theorem: just if no part of the WORKS has fewer keepers than WORKS. */
        boolean canSay(int works, int free) {
            for (int set = 1; set < WORK_SETS; set++) {
                boolean part = (set & ~works) == 0;
                if (part && Integer.bitCount(keepersOfSet[set] & free) < Integer.bitCount(set)) {
                    return false;
                }
            }
            return true;
        }

        int speakerOf(int works, int k) {
            int rest = works;
            int free = ALL_FOLK;
            int at = 0;
            for (int w = 0; w < WORKS_MAX; w++) {
                if ((works >> w & 1) != 0) {
                    rest &= ~(1 << w);
                    int f = leastSpeaker(w, rest, free);
                    if (f == NONE || at == k) {
                        return f;
                    }
                    free &= ~(1 << f);
                    at++;
                }
            }
            return NONE;
        }

        private int leastSpeaker(int w, int rest, int free) {
            int able = w >= 0 && w < WORKS_MAX ? keepers[w] & free : 0;
            for (int f = 0; f < FOLK_MAX; f++) {
                if ((able >> f & 1) != 0 && canSay(rest, free & ~(1 << f))) {
                    return f;
                }
            }
            return NONE;
        }

        int neverKept(Valley v) {
            int bits = 0;
            for (int w = 0; w < WORKS_MAX; w++) {
                if (v != null && v.hasWork(w) && keepers[w] == 0) {
                    bits |= 1 << w;
                }
            }
            return bits;
        }

        int mostWorks(Valley v) {
            int most = 0;
            int all = v == null ? 0 : v.allWorks();
            for (int set = 0; set <= all && set < WORK_SETS; set++) {
                if (Integer.bitCount(set) > most && canSay(set, ALL_FOLK)) {
                    most = Integer.bitCount(set);
                }
            }
            return most;
        }

        int mostWorth(Valley v) {
            int most = 0;
            for (int set = 0; v != null && set < WORK_SETS; set++) {
                int worth = 0;
                for (int w = 0; w < v.works && w < WORKS_MAX; w++) {
                    worth += (set >> w & 1) != 0 ? v.worth[w] : 0;
                }
                if (worth > most && canSay(set, ALL_FOLK)) {
                    most = worth;
                }
            }
            return most;
        }

        int leadOf(Valley v, int turns) {
            return lead(v, keepers, turns, 0, 0);
        }

        int firstTake(Valley v, int turns) {
            if (v == null || turns <= 0) {
                return NONE;
            }
            int best = TAKE_NONE;
            int bestLead = -lead(v, keepers, turns - 1, 0, 0);
            // From the last down: of equals the least stays, and none counts as the greatest.
            for (int w = WORKS_MAX - 1; w >= 0; w--) {
                if (v.hasWork(w) && keepers[w] != 0) {
                    int with = keepers[w] & -keepers[w];
                    int after = v.worth[w] - lead(v, keepers, turns - 1, 1 << w, with);
                    if (after >= bestLead) {
                        bestLead = after;
                        best = w;
                    }
                }
            }
            return best;
        }

        /** How much more the one whose turn it is gets from here on than the other one. */
        private static int lead(Valley v, int[] keepers, int turns, int works, int folk) {
            if (v == null || keepers == null || turns <= 0 || turns > TURNS_MAX) {
                return 0;
            }
            int best = -lead(v, keepers, turns - 1, works, folk);
            for (int w = 0; w < v.works && w < WORKS_MAX && w < keepers.length; w++) {
                int free = keepers[w] & ~folk;
                if ((works >> w & 1) == 0 && free != 0) {
                    int with = folk | (free & -free);
                    int after = v.worth[w] - lead(v, keepers, turns - 1, works | 1 << w, with);
                    best = Math.max(best, after);
                }
            }
            return best;
        }
    }

    /** What all FOLK together can dig, and how WORKS lie together. */
    private static final class Diggers {
        private static final int STRUCK = -1;
        private static final int STEP = 64;

        int planWorth;
        int planWorks;
        int planFolk;
        private final int[] sizes;
        private final int[] worths;
        private final int[] need;
        private final int[] needs;
        private final int[] hands;
        private final int[] handsAll;
        private final int[] wanted;
        private int manyWanted;
        private final int[] reached;

        Diggers() {
            sizes = new int[WORK_SETS];
            worths = new int[WORK_SETS];
            need = new int[WORKS_MAX];
            needs = new int[WORK_SETS];
            hands = new int[WORKS_MAX];
            handsAll = new int[WORK_SETS];
            wanted = new int[WORKS_MAX];
            reached = new int[FOLK_SETS];
        }

        private static void sumUp(Valley v, int[] each, int[] sums) {
            if (v == null || each == null || sums == null) {
                return;
            }
            for (int set = 0; set < sums.length; set++) {
                sums[set] = 0;
                for (int w = 0; w < v.works && w < each.length; w++) {
                    sums[set] += (set >> w & 1) != 0 ? each[w] : 0;
                }
            }
        }

        int bestLot(Valley v, int load, boolean which) {
            if (v == null) {
                return NONE;
            }
            sumUp(v, v.size, sizes);
            sumUp(v, v.worth, worths);
            int best = 0;
            for (int set = 0; set <= v.allWorks() && set < WORK_SETS; set++) {
                if (sizes[set] <= load && worths[set] > worths[best]) {
                    best = set;
                }
            }
            return which ? best : worths[best];
        }

        int leastDifference(Valley v) {
            if (v == null) {
                return 0;
            }
            sumUp(v, v.size, sizes);
            int whole = sizes[WORK_SETS - 1];
            int least = whole;
            for (int set = 0; set < WORK_SETS; set++) {
                least = Math.min(least, Math.abs(whole - 2 * sizes[set]));
            }
            return least;
        }

        int yearsForAll(Valley v) {
            if (v == null) {
                return NONE;
            }
            sumUp(v, v.size, sizes);
            int together = v.totalStrength();
            for (int years = 0; years <= LAST_YEAR; years++) {
                if (years * together >= sizes[WORK_SETS - 1]) {
                    return years;
                }
            }
            return NONE;
        }

        /** Tries sets of WORKS by WORTH, falling, of one WORTH by number, rising, till one can be. */
        void makePlan(Valley v, int n) {
            planWorth = 0;
            planWorks = 0;
            planFolk = 0;
            if (v == null || n <= 0) {
                return;
            }
            for (int w = 0; w < WORKS_MAX; w++) {
                need[w] = v.hasWork(w) ? (v.size[w] + n - 1) / n : 0;
                hands[w] = handsAlone(v, need[w]);
            }
            sumUp(v, v.worth, worths);
            sumUp(v, need, needs);
            sumUp(v, hands, handsAll);
            strikeHopeless(v);
            for (int round = 0; round < WORK_SETS; round++) {
                int set = bestUnstruck();
                int fewest = fewestHands(v, set);
                if (fewest != NONE) {
                    planWorth = worths[set];
                    planWorks = set;
                    planFolk = fewest;
                    return;
                }
                worths[set] = STRUCK;
            }
        }

        /** The fewest FOLK for one WORK, as if there were no other: the strongest first. */
        private static int handsAlone(Valley v, int needed) {
            int left = needed;
            int used = 0;
            for (int many = 0; many <= FOLK_MAX; many++) {
                if (left <= 0) {
                    return many;
                }
                int strongest = NONE;
                int most = 0;
                for (int f = 0; f < v.folk && f < FOLK_MAX; f++) {
                    if ((used >> f & 1) == 0 && v.strength[f] > most) {
                        most = v.strength[f];
                        strongest = f;
                    }
                }
                used |= strongest == NONE ? 0 : 1 << strongest;
                left -= most;
            }
            return FOLK_MAX + 1;
        }

        /** Spares the search sets that can't be for a plain reason: it is the dearest of all. */
        private void strikeHopeless(Valley v) {
            int together = v.totalStrength();
            for (int set = 0; set < WORK_SETS; set++) {
                boolean there = set <= v.allWorks();
                if (!there || needs[set] > together || handsAll[set] > v.folk) {
                    worths[set] = STRUCK;
                }
            }
        }

        private int bestUnstruck() {
            int best = 0;
            for (int set = 0; set < WORK_SETS; set++) {
                if (worths[set] > worths[best]) {
                    best = set;
                }
            }
            return best;
        }

        /**
         * The fewest FOLK that do these WORKS, NONE if all together can't. The WORKS are dug one
         * behind the other; of a set of FOLK it is enough to know the most they get done so:
         * WORKS done, in steps, and what is dug at the next one.
         */
        private int fewestHands(Valley v, int set) {
            wantWorks(set);
            if (manyWanted == 0) {
                return 0;
            }
            int fewest = NONE;
            int sets = 1 << v.folk;
            reached[0] = 0;
            for (int team = 1; team < sets && team < FOLK_SETS; team++) {
                int best = 0;
                for (int f = 0; f < v.folk && f < FOLK_MAX; f++) {
                    if ((team >> f & 1) != 0) {
                        best = Math.max(best, digOn(reached[team & ~(1 << f)], v.strength[f]));
                    }
                }
                reached[team] = best;
                int many = Integer.bitCount(team);
                if (best >= manyWanted * STEP && (fewest == NONE || many < fewest)) {
                    fewest = many;
                }
            }
            return fewest;
        }

        private void wantWorks(int set) {
            manyWanted = 0;
            for (int w = 0; w < WORKS_MAX; w++) {
                if ((set >> w & 1) != 0 && manyWanted < WORKS_MAX) {
                    wanted[manyWanted] = need[w];
                    manyWanted++;
                }
            }
        }

        private int digOn(int sofar, int strength) {
            int done = sofar / STEP;
            if (done < 0 || done >= manyWanted || done >= WORKS_MAX) {
                return sofar;
            }
            int dug = sofar % STEP + strength;
            return dug >= wanted[done] ? (done + 1) * STEP : done * STEP + dug;
        }
    }

    /** Who comes from whom, and how near FOLK are. */
    private static final class Kin {
        /** KINSHIP 1. Each step back halves it, and there are fewer than 40 of them. */
        static final long WHOLE = 1L << 40;
        static final long EIGHTH = WHOLE / 8;

        int lineLength;
        final int[] lineRow;
        private final int[] longest;
        private final long[][] near;
        private final int[] watched;
        private int watchers;
        private int manyWatchers;

        Kin() {
            lineRow = new int[FOLK_MAX];
            longest = new int[FOLK_MAX];
            near = new long[FOLK_MAX][FOLK_MAX];
            watched = new int[FOLK_SETS];
        }

        /** KINSHIP of two FOLK, in parts of WHOLE. */
        long nearness(Valley v, int a, int b) {
            if (v == null || !v.hasFolk(a) || !v.hasFolk(b)) {
                return 0;
            }
            for (int f = 0; f < v.folk && f < FOLK_MAX; f++) {
                for (int g = 0; g < f; g++) {
                    near[f][g] = nearByParents(v.parents[f], g);
                    near[g][f] = near[f][g];
                }
                near[f][f] = WHOLE / 2 + nearOfCouple(v.parents[f]) / 2;
            }
            return near[a][b];
        }

        private long nearByParents(int parents, int g) {
            long sum = 0;
            for (int p = 0; p < FOLK_MAX && g >= 0 && g < FOLK_MAX; p++) {
                if ((parents >> p & 1) != 0) {
                    sum += near[p][g];
                }
            }
            return sum / 2;
        }

        private long nearOfCouple(int parents) {
            for (int p = 0; p < FOLK_MAX; p++) {
                for (int q = 0; q < p; q++) {
                    if (parents == (1 << p | 1 << q)) {
                        return near[p][q];
                    }
                }
            }
            return 0;
        }

        void findLine(Valley v) {
            lineLength = 0;
            if (v == null) {
                return;
            }
            int top = NONE;
            for (int f = FOLK_MAX - 1; f >= 0; f--) {
                longest[f] = v.hasFolk(f) ? 1 + longestBelow(v, f) : 0;
                if (longest[f] > 0 && longest[f] >= lineLength) {
                    lineLength = longest[f];
                    top = f;
                }
            }
            for (int k = 0; k < lineLength && k < FOLK_MAX; k++) {
                lineRow[k] = top;
                top = nextInLine(v, top, lineLength - k - 1);
            }
        }

        private int longestBelow(Valley v, int f) {
            int best = 0;
            for (int c = 0; c < v.folk && c < FOLK_MAX; c++) {
                if ((v.parents[c] >> f & 1) != 0) {
                    best = Math.max(best, longest[c]);
                }
            }
            return best;
        }

        private int nextInLine(Valley v, int f, int left) {
            for (int c = 0; c < v.folk && c < FOLK_MAX; c++) {
                if ((v.parents[c] >> f & 1) != 0 && longest[c] == left) {
                    return c;
                }
            }
            return NONE;
        }

        /** PARENTS are of less number, so one way down the numbers meets all of them. */
        int eldersOf(Valley v, int folk) {
            if (v == null || !v.hasFolk(folk)) {
                return 0;
            }
            int bits = v.parents[folk];
            for (int f = folk - 1; f >= 0; f--) {
                if ((bits >> f & 1) != 0) {
                    bits |= v.parents[f];
                }
            }
            return bits;
        }

        int youngOf(Valley v, int folk) {
            if (v == null || !v.hasFolk(folk)) {
                return 0;
            }
            int bits = 0;
            for (int f = 0; f < v.folk && f < FOLK_MAX; f++) {
                if ((v.parents[f] & (bits | 1 << folk)) != 0) {
                    bits |= 1 << f;
                }
            }
            return bits;
        }

        private static int oneStepOn(Valley v, int bits) {
            int more = bits;
            for (int f = 0; f < v.folk && f < FOLK_MAX; f++) {
                if ((bits >> f & 1) != 0) {
                    more |= v.parents[f];
                }
                if ((v.parents[f] & bits) != 0) {
                    more |= 1 << f;
                }
            }
            return more;
        }

        int stepsBetween(Valley v, int a, int b) {
            if (v == null || !v.hasFolk(a) || !v.hasFolk(b)) {
                return NONE;
            }
            int bits = 1 << a;
            for (int steps = 0; steps < FOLK_MAX; steps++) {
                if ((bits >> b & 1) != 0) {
                    return steps;
                }
                bits = oneStepOn(v, bits);
            }
            return NONE;
        }

        private static int houseOf(Valley v, int f) {
            int bits = 1 << f;
            for (int steps = 0; steps < FOLK_MAX; steps++) {
                bits = oneStepOn(v, bits);
            }
            return bits;
        }

        int look(Valley v, int what) {
            if (v == null) {
                return NO_SUCH;
            }
            switch (what) {
                case 0:
                    return manyHouses(v);
                case 1:
                    return largestHouse(v);
                case 2:
                    return roots(v);
                case 3:
                    return orphans(v);
                case 4:
                    return cousins(v);
                case 5:
                    return mostBurdened(v);
                case 6:
                    return childrenBinding(v, mostBurdened(v));
                case 7:
                    findWatch(v);
                    return manyWatchers;
                case 8:
                    findWatch(v);
                    return watchers;
                default:
                    return NO_SUCH;
            }
        }

        private static int manyHouses(Valley v) {
            int many = 0;
            int seen = 0;
            for (int f = 0; f < v.folk && f < FOLK_MAX; f++) {
                if ((seen >> f & 1) == 0) {
                    seen |= houseOf(v, f);
                    many++;
                }
            }
            return many;
        }

        private static int largestHouse(Valley v) {
            int largest = 0;
            for (int f = 0; f < v.folk && f < FOLK_MAX; f++) {
                largest = Math.max(largest, Integer.bitCount(houseOf(v, f)));
            }
            return largest;
        }

        private static int roots(Valley v) {
            int bits = 0;
            for (int f = 0; f < v.folk && f < FOLK_MAX; f++) {
                if (v.parents[f] == 0) {
                    bits |= 1 << f;
                }
            }
            return bits;
        }

        private static int orphans(Valley v) {
            int bits = 0;
            for (int f = 0; f < v.folk && f < FOLK_MAX; f++) {
                if (v.isChild(f) && v.grand[f] == 0) {
                    bits |= 1 << f;
                }
            }
            return bits;
        }

        private static int cousins(Valley v) {
            int many = 0;
            for (int f = 0; f < v.folk && f < FOLK_MAX; f++) {
                for (int g = 0; g < f; g++) {
                    boolean noParent = (v.parents[f] & v.parents[g]) == 0;
                    if (noParent && (v.grand[f] & v.grand[g]) != 0) {
                        many++;
                    }
                }
            }
            return many;
        }

        private static int childrenBinding(Valley v, int elder) {
            int many = 0;
            for (int f = 0; f < v.folk && f < FOLK_MAX; f++) {
                if (v.isChild(f) && v.isGrandparent(elder, f)) {
                    many++;
                }
            }
            return many;
        }

        private static int mostBurdened(Valley v) {
            int best = NONE;
            int most = 0;
            for (int f = 0; f < v.folk && f < FOLK_MAX; f++) {
                int many = childrenBinding(v, f);
                if (many > most) {
                    most = many;
                    best = f;
                }
            }
            return best;
        }

        private void findWatch(Valley v) {
            int children = 0;
            int all = 0;
            for (int f = 0; f < v.folk && f < FOLK_MAX; f++) {
                if (v.isChild(f)) {
                    children |= 1 << f;
                    all |= v.grand[f];
                }
            }
            watched[0] = 0;
            for (int f = 0; f < FOLK_MAX; f++) {
                // Sets with f as their greatest: those without it are known by then.
                for (int rest = 0; rest < 1 << f; rest++) {
                    watched[rest | 1 << f] = watched[rest] | v.grand[f];
                }
            }
            manyWatchers = FOLK_MAX + 1;
            for (int set = 0; set < FOLK_SETS; set++) {
                int many = Integer.bitCount(set);
                boolean watches = (set & ~children) == 0 && watched[set] == all;
                if (watches && many < manyWatchers) {
                    manyWatchers = many;
                    watchers = set;
                }
            }
        }
    }

    /** A fraction in least terms, and how it comes of GRANDPARENTS that live or stand in rows. */
    private static final class Chance {
        private static final int DIVIDING_STEPS = 200;

        private long over;
        private long below;
        private int elders;
        private final int[] who;
        private final int[] strength;
        private final int[] ofTen;

        Chance() {
            over = 0;
            below = 1;
            who = new int[FOLK_MAX];
            strength = new int[FOLK_MAX];
            ofTen = new int[FOLK_MAX];
        }

        long part(boolean under) {
            return under ? below : over;
        }

        void reduce(long top, long bottom) {
            long a = top;
            long b = bottom;
            for (int step = 0; step < DIVIDING_STEPS && b != 0; step++) {
                long rest = a % b;
                a = b;
                b = rest;
            }
            over = a == 0 ? 0 : top / a;
            below = a == 0 ? 1 : bottom / a;
        }

        private void gather(Valley v, int folk) {
            elders = 0;
            for (int g = 0; g < v.folk && g < FOLK_MAX; g++) {
                if (v.isGrandparent(g, folk) && elders < FOLK_MAX) {
                    who[elders] = g;
                    strength[elders] = v.strength[g];
                    ofTen[elders] = 10 - v.age[g] / 10;
                    elders++;
                }
            }
        }

        private int strengthOf(int set) {
            int sum = 0;
            for (int i = 0; i < elders && i < FOLK_MAX; i++) {
                sum += (set >> i & 1) != 0 ? strength[i] : 0;
            }
            return sum;
        }

        private long waysToLive(int set) {
            long ways = 1;
            for (int i = 0; i < elders && i < FOLK_MAX; i++) {
                ways *= (set >> i & 1) != 0 ? ofTen[i] : 10 - ofTen[i];
            }
            return ways;
        }

        void thatTheyLive(Valley v, int folk, int work, int n) {
            if (v == null || !v.hasWork(work)) {
                return;
            }
            gather(v, folk);
            long good = 0;
            long all = 0;
            for (int set = 0; set < 1 << elders; set++) {
                long ways = waysToLive(set);
                all += ways;
                if (n * strengthOf(set) >= v.size[work]) {
                    good += ways;
                }
            }
            reduce(good, all);
        }

        void thatHeTurnsIt(Valley v, int folk, int work, int n, int elder) {
            if (v == null || !v.hasWork(work)) {
                return;
            }
            gather(v, folk);
            long good = 0;
            for (int i = 0; i < elders && i < FOLK_MAX; i++) {
                for (int set = 0; who[i] == elder && set < 1 << elders; set++) {
                    boolean without = (set >> i & 1) == 0;
                    boolean can = n * strengthOf(set) >= v.size[work];
                    boolean canWithHim = n * strengthOf(set | 1 << i) >= v.size[work];
                    if (without && !can && canWithHim) {
                        int ahead = Integer.bitCount(set);
                        good += rowsOf(ahead) * rowsOf(elders - 1 - ahead);
                    }
                }
            }
            reduce(good, rowsOf(elders));
        }

        private static long rowsOf(int many) {
            long rows = 1;
            for (int i = 2; i <= many && i <= FOLK_MAX; i++) {
                rows *= i;
            }
            return rows;
        }
    }
}
