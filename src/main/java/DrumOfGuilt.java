/**
 * The guilty beat the drum: people, their wrongs of a day, what each strikes for them at dusk,
 * and what all are thought of then. The promises stand in the document of the project.
 */
public final class DrumOfGuilt {
    public static final int NONE = -1, BAD = -2, STATE = -3, FULL = -4;
    public static final long NO = -4611686018427387904L;

    private static final int NO_SUCH = -5, NO_SUCH_WRONG = -6, NOT_AS_TOLD = -7;
    private static final int NOTHING_THERE = -11, OUTSIDE = -12, UNLIKE = -13, BELOW_ZERO = -14;
    private static final int FAULT_AT = -100;
    private static final int FINE = 0;

    private static final int MOST_PEOPLE = 6, MOST_WRONGS = 10, MOST_TEXTS = 6;
    private static final int MOST_BYTES = 160, MOST_FED = 5, BYTE_VALUES = 256;
    private static final int MOST_SHEETS = 4, MOST_CELLS = 40;
    private static final int MORES = 10, PRIDES = 100, NAMES = 1000, LAST_DAY = 999;
    private static final int FIRST_NAME = 500, MOST_WEIGHT = 9, MOST_TOLD_BEATS = 999;
    private static final int SEEDS = 100000, MOST_SEEDS = 40, DRAWN_WRONGS = 6;
    private static final int MISSING_SORT = -1, BYTES = 0, SHORTS = 1, SORTS = 3;
    private static final int PART_STROKES = 0, PART_DOUBTS = 1, PART_PAYS = 2, PARTS = 3;
    private static final int TAKEN_FOR_WRONG = 6;
    private static final String FIRST_TEXT = "strokes 1 ; doubts 10 ; pays weight ;";

    private final Evening now = new Evening();
    private final Evening thought = new Evening();
    private final Evening kept = new Evening();
    private boolean isKept = false;
    private final Tape tape = new Tape();
    private final Reader reader = new Reader(tape);
    private final Law[] texts = new Law[MOST_TEXTS];
    private int textCount = 0;
    private final Sheet[] sheets = new Sheet[MOST_SHEETS];
    private final int[] strokesFor = new int[MOST_WRONGS];

    public DrumOfGuilt() {
        for (int s = 0; s < sheets.length; s++) {
            sheets[s] = new Sheet();
        }
        for (int i = 0; i < FIRST_TEXT.length(); i++) {
            tape.append(FIRST_TEXT.charAt(i));
        }
        texts[0] = reader.read();
        textCount = 1;
        tape.empty();
        now.rule(0, texts[0]);
    }

    // ---- wrongs, the law, people

    public int count(int what) {
        switch (what) {
            case 0: return now.people;
            case 1: return now.wrongs;
            case 2: return now.day;
            case 3: return textCount;
            case 4: return now.lawNumber;
            case 5: return tape.size;
            default: return BAD;
        }
    }

    public int wrong(int some, int heavy, int saw) {
        int everybody = (1 << now.people) - 1;
        boolean peopleAsTold = some != 0 && (some & ~everybody) == 0 && (saw & ~everybody) == 0;
        if (!peopleAsTold || (some & saw) != 0 || heavy < 1 || heavy > MOST_WEIGHT) {
            return BAD;
        }
        return now.add(some, heavy, saw) ? now.wrongs - 1 : FULL;
    }

    public int deed(int k, int what) {
        if (!now.hasWrong(k)) {
            return NO_SUCH;
        }
        switch (what) {
            case 0: return at(now.doersOf, k);
            case 1: return at(now.weightOf, k);
            case 2: return at(now.seersOf, k);
            default: return NOT_AS_TOLD;
        }
    }

    public int amend(int k) {
        if (!now.hasWrong(k)) {
            return NO_SUCH;
        }
        int weight = at(now.weightOf, k);
        now.drop(k);
        return weight;
    }

    public int feed(int n, int a, int b, int c, int d, int e) {
        boolean bytes = isByte(a) && isByte(b) && isByte(c) && isByte(d) && isByte(e);
        if (n < 1 || n > MOST_FED || !bytes) {
            return BAD;
        }
        if (tape.size + n > MOST_BYTES) {
            return FULL;
        }
        for (int i = 0; i < n; i++) {
            tape.append(i == 0 ? a : i == 1 ? b : i == 2 ? c : i == 3 ? d : e);
        }
        return tape.size;
    }

    public int text() {
        if (textCount >= texts.length) {
            return FULL;
        }
        Law law = reader.read();
        tape.empty();
        if (law == null) {
            return FAULT_AT - reader.fault;
        }
        texts[textCount] = law;
        textCount++;
        return textCount - 1;
    }

    public int force(int t) {
        if (!fits(t, textCount)) {
            return BAD;
        }
        int before = now.lawNumber;
        now.rule(t, textAt(t));
        return before;
    }

    public int asks(int part, int p, int k) {
        if (!fits(part, PARTS) || !now.hasPerson(p) || !now.hasWrong(k)) {
            return BAD;
        }
        return now.says(part, p, k);
    }

    public int person(int kindMore, int proud) {
        if (!fits(kindMore, Kind.COUNT * MORES) || !fits(proud, PRIDES)) {
            return BAD;
        }
        return now.welcome(kindMore / MORES, kindMore % MORES, proud) ? now.people - 1 : FULL;
    }

    public int put(int p, int what, int v) {
        if (!now.hasPerson(p)) {
            return NO_SUCH;
        }
        if (!isZeroOrOne(what) || !fits(v, what == 0 ? PRIDES : NAMES)) {
            return NOT_AS_TOLD;
        }
        int[] row = what == 0 ? now.prideOf : now.nameOf;
        int before = at(row, p);
        store(row, p, v);
        return before;
    }

    public int told(int p, int what) {
        if (!now.hasPerson(p)) {
            return NO_SUCH;
        }
        switch (what) {
            case 0: return at(now.prideOf, p);
            case 1: return at(now.nameOf, p);
            case 2: return at(now.kindOf, p);
            case 3: return at(now.moreOf, p);
            case 4: return Integer.bitCount(now.wrongsWith(now.doersOf, p));
            case 5: return Integer.bitCount(now.wrongsWith(now.seersOf, p));
            default: return NOT_AS_TOLD;
        }
    }

    // ---- dusk

    public int dusk(int p, int what) {
        if (!now.hasPerson(p)) {
            return NO_SUCH;
        }
        int beats = now.beats(p);
        now.look(p);
        switch (what) {
            case 0: return beats;
            case 1: return now.catchersAt(beats);
            case 2: return now.lossAt(beats);
            case 3: return now.thoughtAt(p, beats);
            default: return NOT_AS_TOLD;
        }
    }

    public int town(int what) {
        switch (what) {
            case 0: return now.beatsOfAll();
            case 1: return now.loudest();
            case 2: return now.silent();
            case 3: return now.catchersOfAnybody();
            default: return BAD;
        }
    }

    public int night() {
        if (now.day >= LAST_DAY) {
            return STATE;
        }
        int beats = now.beatsOfAll();
        now.pass();
        return beats;
    }

    // ---- what is best

    public int best(int p, int what) {
        if (!now.hasPerson(p)) {
            return NO_SUCH;
        }
        if (!isZeroOrOne(what)) {
            return NOT_AS_TOLD;
        }
        int own = now.wrongsWith(now.doersOf, p);
        int bestSet = 0;
        int bestThought = NONE;
        now.fillStrokes(p, strokesFor);
        now.look(p);
        for (int set = 0; set < 1 << now.wrongs; set++) {
            if ((set & ~own) == 0) {
                int thoughtOf = now.thoughtAt(p, strokesBySet(set));
                if (thoughtOf > bestThought) {
                    bestThought = thoughtOf;
                    bestSet = set;
                }
            }
        }
        return what == 0 ? bestSet : bestThought;
    }

    public int few(int p) {
        if (!now.hasPerson(p)) {
            return NO_SUCH;
        }
        now.look(p);
        return now.mostSightings();
    }

    public int hire(int p, int what) {
        if (!now.hasPerson(p)) {
            return NO_SUCH;
        }
        if (!isZeroOrOne(what)) {
            return NOT_AS_TOLD;
        }
        int set = now.wrongsWith(now.doersOf, p);
        int who = NONE;
        int least = NONE;
        for (int q = 0; q < now.people; q++) {
            int price = q == p ? NONE : now.price(q, set);
            if (q != p && (who == NONE || price < least)) {
                who = q;
                least = price;
            }
        }
        return what == 0 ? who : least;
    }

    public int away(int what) {
        if (!isZeroOrOne(what)) {
            return BAD;
        }
        int who = NONE;
        int most = now.thoughtOfAll();
        for (int q = 0; q < now.people; q++) {
            thought.takeFrom(now);
            thought.blind(q);
            int together = thought.thoughtOfAll();
            if (together > most) {
                most = together;
                who = q;
            }
        }
        return what == 0 ? who : most;
    }

    public int undone(int what) {
        if (!isZeroOrOne(what)) {
            return BAD;
        }
        int which = NONE;
        int most = now.thoughtOfAll();
        for (int k = 0; k < now.wrongs; k++) {
            thought.takeFrom(now);
            thought.drop(k);
            int together = thought.thoughtOfAll();
            if (together > most) {
                most = together;
                which = k;
            }
        }
        return what == 0 ? which : most;
    }

    public int pair(int what) {
        if (!isZeroOrOne(what)) {
            return BAD;
        }
        int who = NONE;
        int most = NONE;
        for (int p = 0; p < now.people; p++) {
            for (int q = p + 1; q < now.people; q++) {
                int saw = now.sightingsOf(p, q) + now.sightingsOf(q, p);
                if (saw > most) {
                    most = saw;
                    who = 10 * p + q;
                }
            }
        }
        return what == 0 ? who : most;
    }

    // ---- what strokes may have been

    public int guess(int p, int beats, int what) {
        if (!now.hasPerson(p)) {
            return NO_SUCH;
        }
        if (beats < 0 || beats > MOST_TOLD_BEATS || !isZeroOrOne(what)) {
            return NOT_AS_TOLD;
        }
        now.fillStrokes(p, strokesFor);
        return what == 0 ? setsByBeats(beats, 0) : leastSetByBeats(beats);
    }

    public long likely(int p, int beats, int k, int part) {
        if (!now.hasPerson(p) || !now.hasWrong(k) || !isZeroOrOne(part)) {
            return NO;
        }
        now.fillStrokes(p, strokesFor);
        return inLowestTerms(setsByBeats(beats, 1 << k), setsByBeats(beats, 0), part);
    }

    public long share(int p, int part) {
        if (!now.hasPerson(p) || !isZeroOrOne(part)) {
            return NO;
        }
        return inLowestTerms(now.beats(p), now.beatsOfAll(), part);
    }

    // ---- told evenings

    public int judge(int s) {
        Sheet sheet = sheetAt(s);
        int refusal = refusalToJudge(sheet);
        return refusal != FINE ? refusal : now.firstOtherwise(sheet, NONE);
    }

    public int kinds(int s, int p, int sort) {
        Sheet sheet = sheetAt(s);
        int refusal = refusalToJudge(sheet, p, sort);
        if (sheet == null || refusal != FINE) {
            return refusal;
        }
        thought.takeFrom(now);
        int[] row = sort == 0 ? thought.kindOf : thought.moreOf;
        int values = sort == 0 ? Kind.COUNT : MORES;
        boolean othersAgree = thought.firstOtherwise(sheet, p) == NONE;
        int bits = 0;
        for (int v = 0; v < values; v++) {
            store(row, p, v);
            if (othersAgree && sheet.agrees(p, thought.beats(p))) {
                bits |= 1 << v;
            }
        }
        return bits;
    }

    public int prides(int s, int p, int what) {
        Sheet sheet = sheetAt(s);
        int refusal = refusalToJudge(sheet, p, what);
        if (sheet == null || refusal != FINE) {
            return refusal;
        }
        thought.takeFrom(now);
        boolean othersAgree = thought.firstOtherwise(sheet, p) == NONE;
        int number = 0;
        int least = NONE;
        for (int pride = 0; pride < PRIDES; pride++) {
            store(thought.prideOf, p, pride);
            if (othersAgree && sheet.agrees(p, thought.beats(p))) {
                least = number == 0 ? pride : least;
                number++;
            }
        }
        return what == 0 ? number : least;
    }

    public int whose(int s, int k, int what) {
        Sheet sheet = sheetAt(s);
        int refusal = refusalToJudge(sheet);
        if (refusal != FINE) {
            return refusal;
        }
        if (!now.hasWrong(k)) {
            return NO_SUCH_WRONG;
        }
        if (!isZeroOrOne(what)) {
            return NOT_AS_TOLD;
        }
        thought.takeFrom(now);
        int number = 0;
        int least = NONE;
        for (int some = 1; some < 1 << now.people; some++) {
            store(thought.doersOf, k, some);
            if (thought.firstOtherwise(sheet, NONE) == NONE) {
                least = number == 0 ? some : least;
                number++;
            }
        }
        return what == 0 ? number : least;
    }

    public int laws(int s) {
        Sheet sheet = sheetAt(s);
        int refusal = refusalToJudge(sheet);
        if (refusal != FINE) {
            return refusal;
        }
        thought.takeFrom(now);
        int bits = 0;
        for (int t = 0; t < textCount; t++) {
            thought.rule(t, textAt(t));
            if (thought.firstOtherwise(sheet, NONE) == NONE) {
                bits |= 1 << t;
            }
        }
        return bits;
    }

    public int film(int s) {
        Sheet sheet = sheetAt(s);
        if (sheet == null) {
            return BAD;
        }
        sheet.lay(SHORTS, now.people);
        for (int p = 0; p < now.people; p++) {
            sheet.write(p, now.beats(p));
        }
        return now.people;
    }

    // ---- wrongs by lots

    public int drawn(int seed, int what) {
        if (!fits(seed, SEEDS) || !isZeroOrOne(what)) {
            return BAD;
        }
        thought.takeFrom(now);
        thought.draw(seed);
        return what == 0 ? thought.caught() : thought.beatsOfAll();
    }

    public long odds(int seed, int seeds, int p, int part) {
        boolean seedsAsTold = fits(seed, SEEDS) && seeds >= 1 && seeds <= MOST_SEEDS;
        if (!seedsAsTold || !now.hasPerson(p) || !isZeroOrOne(part)) {
            return NO;
        }
        thought.takeFrom(now);
        int times = 0;
        for (int i = 0; i < seeds; i++) {
            thought.draw(seed + i);
            thought.look(p);
            if (thought.catchersAt(thought.beats(p)) != 0) {
                times++;
            }
        }
        return inLowestTerms(times, seeds, part);
    }

    public int image() {
        kept.takeFrom(now);
        isKept = true;
        return now.people;
    }

    public int back() {
        if (!isKept) {
            return STATE;
        }
        now.takeFrom(kept);
        return now.people;
    }

    // ---- the host

    public int sheet(int s, int sort, int n) {
        Sheet sheet = sheetAt(s);
        boolean becomesMissing = sort == MISSING_SORT;
        if (sheet == null || !becomesMissing && (!fits(sort, SORTS) || n > MOST_CELLS)) {
            return BAD;
        }
        if (!becomesMissing && n < 0) {
            return BELOW_ZERO;
        }
        sheet.lay(sort, becomesMissing ? 0 : n);
        return 1;
    }

    public int cell(int s, int i, int v) {
        Sheet sheet = sheetAt(s);
        if (sheet == null) {
            return BAD;
        }
        if (sheet.isMissing()) {
            return NOTHING_THERE;
        }
        if (!sheet.holds(i, 1)) {
            return OUTSIDE;
        }
        sheet.write(i, v);
        return 1;
    }

    public int copy(int s, int i, int other, int j, int n) {
        Sheet from = sheetAt(s);
        Sheet to = sheetAt(other);
        if (from == null || to == null) {
            return BAD;
        }
        if (from.isMissing() || to.isMissing()) {
            return NOTHING_THERE;
        }
        if (from.sort != to.sort) {
            return UNLIKE;
        }
        if (!from.holds(i, n) || !to.holds(j, n)) {
            return OUTSIDE;
        }
        System.arraycopy(from.cells, i, to.cells, j, n);
        return n;
    }

    public int peopleBy(int s, int sort, int from, int n) {
        Sheet sheet = sheetAt(s);
        if (sheet == null || !fits(sort, SORTS) || n < 0 || n > MOST_PEOPLE) {
            return BAD;
        }
        if (sheet.isMissing()) {
            return NOTHING_THERE;
        }
        if (sheet.sort != sort) {
            return UNLIKE;
        }
        int came = 0;
        for (int i = 0; i < n; i++) {
            int place = from + 2 * i;
            if (!sheet.holds(place, 2)) {
                return OUTSIDE;
            }
            if (person(sheet.read(place), sheet.read(place + 1)) >= 0) {
                came++;
            }
        }
        return came;
    }

    public int taken(int i, int kind) {
        if (!fits(kind, TAKEN_FOR_WRONG + 1)) {
            return BAD;
        }
        if (!fits(i, MOST_PEOPLE + MOST_WRONGS)) {
            return OUTSIDE;
        }
        int k = i - MOST_PEOPLE;
        if (!now.hasPerson(i) && !now.hasWrong(k)) {
            return NOTHING_THERE;
        }
        if (kind == TAKEN_FOR_WRONG) {
            return now.hasWrong(k) ? at(now.weightOf, k) : UNLIKE;
        }
        return now.hasPerson(i) && Kind.isOne(at(now.kindOf, i), kind) ? i : UNLIKE;
    }

    // ---- what the calls above have in common

    private static int at(int[] row, int i) {
        return i >= 0 && i < row.length ? row[i] : 0;
    }

    private static void store(int[] row, int i, int v) {
        if (i >= 0 && i < row.length) {
            row[i] = v;
        }
    }

    private static boolean fits(int v, int size) {
        return v >= 0 && v < size;
    }

    private static boolean isZeroOrOne(int v) {
        return v == 0 || v == 1;
    }

    private static boolean isByte(int v) {
        return fits(v, BYTE_VALUES);
    }

    private static boolean hasBit(int bits, int i) {
        return (bits >> i & 1) == 1;
    }

    private static int bounded(int v, int most) {
        return Math.max(0, Math.min(most, v));
    }

    private static long inLowestTerms(int above, int below, int part) {
        int divisor = greatestDivisor(above, below);
        if (below <= 0 || divisor <= 0) {
            return NO;
        }
        return (part == 0 ? above : below) / divisor;
    }

    private static int greatestDivisor(int above, int below) {
        int a = above;
        int b = below;
        // Each round makes b less: far fewer than these rounds are needed.
        for (int round = 0; round < 1000 && b != 0; round++) {
            int rest = a % b;
            a = b;
            b = rest;
        }
        return a;
    }

    private Law textAt(int t) {
        return t >= 0 && t < texts.length ? texts[t] : null;
    }

    private Sheet sheetAt(int s) {
        return s >= 0 && s < sheets.length ? sheets[s] : null;
    }

    private int refusalToJudge(Sheet sheet) {
        if (sheet == null) {
            return BAD;
        }
        if (sheet.isMissing()) {
            return NOTHING_THERE;
        }
        return sheet.size > now.people ? BAD : FINE;
    }

    private int refusalToJudge(Sheet sheet, int p, int what) {
        int refusal = refusalToJudge(sheet);
        if (refusal != FINE) {
            return refusal;
        }
        if (!now.hasPerson(p)) {
            return NO_SUCH;
        }
        return isZeroOrOne(what) ? FINE : NOT_AS_TOLD;
    }

    private int strokesBySet(int set) {
        int strokes = 0;
        for (int k = 0; k < now.wrongs; k++) {
            strokes += hasBit(set, k) ? at(strokesFor, k) : 0;
        }
        return strokes;
    }

    private int setsByBeats(int beats, int within) {
        int number = 0;
        for (int set = 0; set < 1 << now.wrongs; set++) {
            if ((set & within) == within && strokesBySet(set) == beats) {
                number++;
            }
        }
        return number;
    }

    private int leastSetByBeats(int beats) {
        for (int set = 0; set < 1 << now.wrongs; set++) {
            if (strokesBySet(set) == beats) {
                return set;
            }
        }
        return NONE;
    }

    /** What each KIND makes of what the text says. */
    private static final class Kind {
        static final int PERSON = 0, CHILD = 1, BANKER = 2, SAINT = 3, THIEF = 4, ELDER = 5;
        static final int COUNT = 6;
        private static final int[] KIND_ABOVE = {NONE, PERSON, PERSON, CHILD, BANKER, PERSON};
        private static final int BANKER_OVERLOOKS = 2;

        static boolean isOne(int kind, int wanted) {
            int one = kind;
            for (int step = 0; step < COUNT && one != wanted && one >= 0; step++) {
                one = at(KIND_ABOVE, one);
            }
            return one == wanted;
        }

        static int strokes(int kind, int said, int more, int weight, int doers) {
            switch (kind) {
                case CHILD: return said + more;
                case BANKER: return said / 2;
                case SAINT: return 2 * (said + more);
                case THIEF: return doers >= 2 ? 0 : said / 2;
                case ELDER: return weight > more ? 1 : 0;
                default: return said;
            }
        }

        static int doubts(int kind, int said, int off) {
            switch (kind) {
                case BANKER:
                case THIEF: return off <= BANKER_OVERLOOKS ? 0 : said;
                case SAINT: return said / 2;
                case ELDER: return said + off;
                default: return said;
            }
        }

        static int price(int kind, int said, int more) {
            switch (kind) {
                case CHILD:
                case SAINT: return 1;
                case THIEF: return 3 * said + more;
                default: return said;
            }
        }
    }

    /**
     * People and wrongs of one day, under a law: as they are, as an image keeps them, or in thought.
     * Its rows are made once, since all calls of a run live in one room.
     */
    private static final class Evening {
        private static final int MOST_STROKES_SAID = 20, MOST_SAID = 99;
        private static final long LOT_FACTOR = 48271L, LOT_MODULUS = 2147483647L;

        int people = 0;
        final int[] kindOf = new int[MOST_PEOPLE];
        final int[] moreOf = new int[MOST_PEOPLE];
        final int[] prideOf = new int[MOST_PEOPLE];
        final int[] nameOf = new int[MOST_PEOPLE];
        int wrongs = 0;
        final int[] doersOf = new int[MOST_WRONGS];
        final int[] weightOf = new int[MOST_WRONGS];
        final int[] seersOf = new int[MOST_WRONGS];
        int day = 0;
        int lawNumber = 0;
        private Law law = null;
        private final int[] facts = new int[Law.FACTS];
        private final int[] sightings = new int[MOST_PEOPLE];
        private final int[] doubtsSaid = new int[MOST_PEOPLE];

        void takeFrom(Evening other) {
            people = other.people;
            wrongs = other.wrongs;
            day = other.day;
            lawNumber = other.lawNumber;
            law = other.law;
            for (int p = 0; p < MOST_PEOPLE; p++) {
                store(kindOf, p, at(other.kindOf, p));
                store(moreOf, p, at(other.moreOf, p));
                store(prideOf, p, at(other.prideOf, p));
                store(nameOf, p, at(other.nameOf, p));
            }
            for (int k = 0; k < MOST_WRONGS; k++) {
                store(doersOf, k, at(other.doersOf, k));
                store(weightOf, k, at(other.weightOf, k));
                store(seersOf, k, at(other.seersOf, k));
            }
        }

        boolean hasPerson(int p) {
            return fits(p, people);
        }

        boolean hasWrong(int k) {
            return fits(k, wrongs);
        }

        void rule(int number, Law next) {
            lawNumber = number;
            law = next;
        }

        boolean welcome(int kind, int more, int pride) {
            if (people >= MOST_PEOPLE) {
                return false;
            }
            store(kindOf, people, kind);
            store(moreOf, people, more);
            store(prideOf, people, pride);
            store(nameOf, people, FIRST_NAME);
            people++;
            return true;
        }

        boolean add(int doers, int weight, int seers) {
            if (wrongs >= MOST_WRONGS) {
                return false;
            }
            store(doersOf, wrongs, doers);
            store(weightOf, wrongs, weight);
            store(seersOf, wrongs, seers);
            wrongs++;
            return true;
        }

        void drop(int gone) {
            for (int k = gone; k < wrongs - 1; k++) {
                store(doersOf, k, at(doersOf, k + 1));
                store(weightOf, k, at(weightOf, k + 1));
                store(seersOf, k, at(seersOf, k + 1));
            }
            wrongs--;
        }

        void blind(int p) {
            for (int k = 0; k < wrongs; k++) {
                store(seersOf, k, at(seersOf, k) & ~(1 << p));
            }
        }

        void draw(int seed) {
            wrongs = 0;
            if (people <= 0) {
                return;
            }
            long lot = seed + 1L;
            for (int i = 0; i < DRAWN_WRONGS; i++) {
                lot = lot * LOT_FACTOR % LOT_MODULUS;
                int doer = (int) (lot % people);
                lot = lot * LOT_FACTOR % LOT_MODULUS;
                int seer = (int) (lot % people);
                lot = lot * LOT_FACTOR % LOT_MODULUS;
                int weight = 1 + (int) (lot % MOST_WEIGHT);
                add(1 << doer, weight, seer == doer ? 0 : 1 << seer);
            }
        }

        /** The wrongs (bits) in whose row of people one stands: as a doer, or as who saw it. */
        int wrongsWith(int[] peopleOf, int p) {
            int bits = 0;
            for (int k = 0; k < wrongs; k++) {
                bits |= hasBit(at(peopleOf, k), p) ? 1 << k : 0;
            }
            return bits;
        }

        int sightingsOf(int p, int q) {
            return Integer.bitCount(wrongsWith(doersOf, p) & wrongsWith(seersOf, q));
        }

        int says(int part, int p, int k) {
            if (law == null) {
                return 0;
            }
            // In the order in which the names are numbered as signs.
            store(facts, 0, at(weightOf, k));
            store(facts, 1, Integer.bitCount(at(doersOf, k)));
            store(facts, 2, Integer.bitCount(at(seersOf, k)));
            store(facts, 3, day);
            store(facts, 4, at(prideOf, p));
            store(facts, 5, at(moreOf, p));
            int most = part == PART_STROKES ? MOST_STROKES_SAID : MOST_SAID;
            return bounded(law.value(part, facts), most);
        }

        int strokes(int p, int k) {
            int doers = Integer.bitCount(at(doersOf, k));
            int said = says(PART_STROKES, p, k);
            return Kind.strokes(at(kindOf, p), said, at(moreOf, p), at(weightOf, k), doers);
        }

        void fillStrokes(int p, int[] row) {
            for (int k = 0; k < wrongs; k++) {
                store(row, k, strokes(p, k));
            }
        }

        int price(int p, int set) {
            int price = 0;
            for (int k = 0; k < wrongs; k++) {
                if (hasBit(set, k)) {
                    price += Kind.price(at(kindOf, p), says(PART_PAYS, p, k), at(moreOf, p));
                }
            }
            return price;
        }

        int beats(int p) {
            int beats = 0;
            for (int k = 0; k < wrongs; k++) {
                beats += hasBit(at(doersOf, k), p) ? strokes(p, k) : 0;
            }
            return beats;
        }

        int beatsOfAll() {
            int together = 0;
            for (int p = 0; p < people; p++) {
                together += beats(p);
            }
            return together;
        }

        int loudest() {
            int who = NONE;
            int most = 0;
            for (int p = 0; p < people; p++) {
                int beats = beats(p);
                if (beats > most) {
                    most = beats;
                    who = p;
                }
            }
            return who;
        }

        int silent() {
            int bits = 0;
            for (int p = 0; p < people; p++) {
                bits |= beats(p) == 0 ? 1 << p : 0;
            }
            return bits;
        }

        /**
         * Fills the rows of what the others saw of one, and of the doubts that the text says of them:
         * the calls ending with At read these rows, so that many beats can be tried after one look.
         */
        void look(int p) {
            for (int q = 0; q < people; q++) {
                int many = 0;
                int last = NONE;
                for (int k = 0; k < wrongs; k++) {
                    if (q != p && hasBit(at(doersOf, k), p) && hasBit(at(seersOf, k), q)) {
                        many++;
                        last = k;
                    }
                }
                store(sightings, q, many);
                store(doubtsSaid, q, many == 0 ? 0 : says(PART_DOUBTS, q, last));
            }
        }

        int mostSightings() {
            int most = 0;
            for (int q = 0; q < people; q++) {
                most = Math.max(most, at(sightings, q));
            }
            return most;
        }

        int catchersAt(int beats) {
            int bits = 0;
            for (int q = 0; q < people; q++) {
                bits |= at(sightings, q) > beats ? 1 << q : 0;
            }
            return bits;
        }

        int lossAt(int beats) {
            int loss = 0;
            for (int q = 0; q < people; q++) {
                int off = at(sightings, q) - beats;
                if (off > 0) {
                    loss += Kind.doubts(at(kindOf, q), at(doubtsSaid, q), off);
                }
            }
            return loss;
        }

        int thoughtAt(int p, int beats) {
            return bounded(at(nameOf, p) - beats - lossAt(beats), NAMES - 1);
        }

        int catchersOfAnybody() {
            int bits = 0;
            for (int p = 0; p < people; p++) {
                look(p);
                bits |= catchersAt(beats(p));
            }
            return bits;
        }

        int caught() {
            int bits = 0;
            for (int p = 0; p < people; p++) {
                look(p);
                bits |= catchersAt(beats(p)) != 0 ? 1 << p : 0;
            }
            return bits;
        }

        int thoughtOfAll() {
            int together = 0;
            for (int p = 0; p < people; p++) {
                look(p);
                together += thoughtAt(p, beats(p));
            }
            return together;
        }

        void pass() {
            // One by one is as all at once: nobody's name tells what another one is thought of.
            for (int p = 0; p < people; p++) {
                look(p);
                store(nameOf, p, thoughtAt(p, beats(p)));
            }
            wrongs = 0;
            day++;
        }

        /** The first whose beats are otherwise than a sheet tells, but for one left aside. */
        int firstOtherwise(Sheet sheet, int aside) {
            for (int p = 0; p < people && sheet != null; p++) {
                if (p != aside && !sheet.agrees(p, beats(p))) {
                    return p;
                }
            }
            return NONE;
        }
    }

    /** A row of numbers of a sort, or missing. */
    private static final class Sheet {
        int sort = MISSING_SORT;
        int size = 0;
        final int[] cells = new int[MOST_CELLS];

        boolean isMissing() {
            return sort == MISSING_SORT;
        }

        void lay(int newSort, int newSize) {
            sort = newSort;
            size = newSize;
            for (int i = 0; i < cells.length; i++) {
                cells[i] = 0;
            }
        }

        boolean holds(int from, int n) {
            return from >= 0 && n >= 0 && n <= size - from;
        }

        int read(int i) {
            return at(cells, i);
        }

        /** What lies outside tells nothing, so anything agrees with it. */
        boolean agrees(int i, int v) {
            return !holds(i, 1) || read(i) == v;
        }

        void write(int i, int v) {
            store(cells, i, sort == BYTES ? (byte) v : sort == SHORTS ? (short) v : v);
        }
    }

    /** What the signs of a text, and of the code that a law is kept as, are numbered. */
    private static final class Sign {
        static final int END = 0, BROKEN = 1, NUMBER = 2, NEGATIVE = 3;
        static final int STROKES = 10, DOUBTS = 11, PAYS = 12, OR = 13, AND = 14, NOT = 15;
        static final int WEIGHT = 16, SHARED = 17, SEEN = 18, DAY = 19, PRIDE = 20, MORE = 21;
        static final int FIRST_WORD = STROKES, LAST_WORD = MORE;

        static boolean isName(int sign) {
            return sign >= WEIGHT && sign <= MORE;
        }

        static String spelling(int word) {
            switch (word) {
                case STROKES: return "strokes";
                case DOUBTS: return "doubts";
                case PAYS: return "pays";
                case OR: return "or";
                case AND: return "and";
                case NOT: return "not";
                case WEIGHT: return "weight";
                case SHARED: return "shared";
                case SEEN: return "seen";
                case DAY: return "day";
                case PRIDE: return "pride";
                case MORE: return "more";
                default: return "";
            }
        }

        /** A byte that is a sign of its own is numbered as it is. */
        static int ofByte(int value) {
            switch (value) {
                case '(':
                case ')':
                case ';':
                case '+':
                case '-':
                case '*':
                case '<':
                case '=': return value;
                default: return BROKEN;
            }
        }
    }

    /**
     * A text that was read: for each part its signs, values ahead of what is done with them.
     * A number is kept as it is, another sign as its number below 0.
     */
    private static final class Law {
        static final int FACTS = 6;

        private final int[] code;
        private final int[] ends = new int[PARTS];
        private final int[] stack;

        Law(int[] written, int length, int[] endsOfParts) {
            int size = bounded(length, written.length);
            code = new int[size];
            stack = new int[size];
            for (int i = 0; i < size; i++) {
                store(code, i, at(written, i));
            }
            for (int part = 0; part < PARTS; part++) {
                store(ends, part, at(endsOfParts, part));
            }
        }

        int value(int part, int[] facts) {
            int end = Math.min(at(ends, part), code.length);
            int height = 0;
            for (int i = part == 0 ? 0 : Math.max(0, at(ends, part - 1)); i < end; i++) {
                int sign = -code[i];
                boolean isNumber = sign <= 0;
                if (isNumber || sign >= Sign.WEIGHT && sign <= Sign.MORE) {
                    store(stack, height, isNumber ? -sign : at(facts, sign - Sign.WEIGHT));
                    height++;
                } else if (sign == Sign.NOT || sign == Sign.NEGATIVE) {
                    store(stack, height - 1, work(sign, at(stack, height - 1), 0));
                } else {
                    height--;
                    store(stack, height - 1, work(sign, at(stack, height - 1), at(stack, height)));
                }
            }
            return at(stack, 0);
        }

        private static int work(int sign, int first, int second) {
            switch (sign) {
                case Sign.OR: return first != 0 || second != 0 ? 1 : 0;
                case Sign.AND: return first != 0 && second != 0 ? 1 : 0;
                case Sign.NOT: return first == 0 ? 1 : 0;
                case Sign.NEGATIVE: return -first;
                case '<': return first < second ? 1 : 0;
                case '=': return first == second ? 1 : 0;
                case '+': return first + second;
                case '-': return first - second;
                case '*': return first * second;
                default: return 0;
            }
        }
    }

    /** The bytes that were fed, and the tokens that they are split into when they are read. */
    private static final class Tape {
        private static final int MOST_DIGITS = 4;

        private final int[] bytes = new int[MOST_BYTES];
        int size = 0;
        // One more than there can be of bytes: behind the last token stands the end.
        final int[] tokens = new int[MOST_BYTES + 1];
        final int[] starts = new int[MOST_BYTES + 1];
        private final int[] stops = new int[MOST_BYTES + 1];

        void append(int value) {
            if (size < bytes.length) {
                store(bytes, size, value);
                size++;
            }
        }

        void empty() {
            size = 0;
        }

        void split() {
            int count = 0;
            for (int i = 0; i < size; i++) {
                boolean blank = isBlank(at(bytes, i));
                if (!blank && !goesOnAt(i)) {
                    store(starts, count, i);
                    count++;
                }
                if (!blank) {
                    store(stops, count - 1, i + 1);
                }
            }
            for (int t = 0; t < count; t++) {
                store(tokens, t, kindOfToken(at(starts, t), at(stops, t)));
            }
            store(tokens, count, Sign.END);
            store(starts, count, size);
        }

        int numberAt(int t) {
            int number = 0;
            for (int i = at(starts, t); i < at(stops, t); i++) {
                number = 10 * number + at(bytes, i) - '0';
            }
            return number;
        }

        private boolean goesOnAt(int i) {
            int before = at(bytes, i - 1);
            int here = at(bytes, i);
            return isLetter(before) && isLetter(here) || isDigit(before) && isDigit(here);
        }

        private int kindOfToken(int start, int stop) {
            int first = at(bytes, start);
            if (isDigit(first)) {
                return stop - start > MOST_DIGITS ? Sign.BROKEN : Sign.NUMBER;
            }
            if (!isLetter(first)) {
                return Sign.ofByte(first);
            }
            for (int word = Sign.FIRST_WORD; word <= Sign.LAST_WORD; word++) {
                if (isSpelled(start, stop, Sign.spelling(word))) {
                    return word;
                }
            }
            return Sign.BROKEN;
        }

        private boolean isSpelled(int start, int stop, String word) {
            boolean same = stop - start == word.length();
            for (int i = 0; same && i < word.length(); i++) {
                same = at(bytes, start + i) == word.charAt(i);
            }
            return same;
        }

        private static boolean isBlank(int value) {
            return value == ' ' || value == '\n';
        }

        private static boolean isLetter(int value) {
            return value >= 'a' && value <= 'z';
        }

        private static boolean isDigit(int value) {
            return value >= '0' && value <= '9';
        }
    }

    /** Reads a text from the tape: one method for each line of the grammar. */
    private static final class Reader {
        private static final int MOST_OPEN = 5;

        private final Tape tape;
        int fault = NONE;
        private int next = 0;
        private final int[] code = new int[MOST_BYTES];
        private int length = 0;
        private final int[] ends = new int[PARTS];

        Reader(Tape fed) {
            tape = fed;
        }

        /** The law that stands on the tape; null, and the place in fault, if there is a FAULT. */
        Law read() {
            tape.split();
            fault = NONE;
            next = 0;
            length = 0;
            clause(PART_STROKES, Sign.STROKES);
            clause(PART_DOUBTS, Sign.DOUBTS);
            clause(PART_PAYS, Sign.PAYS);
            if (!isNext(Sign.END)) {
                fail();
            }
            return fault == NONE ? new Law(code, length, ends) : null;
        }

        private void clause(int part, int key) {
            expect(key);
            or(0);
            expect(';');
            store(ends, part, length);
        }

        private void or(int open) {
            and(open);
            for (int i = 0; i < MOST_BYTES && isNext(Sign.OR); i++) {
                next++;
                and(open);
                write(-Sign.OR);
            }
        }

        private void and(int open) {
            not(open);
            for (int i = 0; i < MOST_BYTES && isNext(Sign.AND); i++) {
                next++;
                not(open);
                write(-Sign.AND);
            }
        }

        private void not(int open) {
            int nots = openAll(Sign.NOT, open);
            comparison(open + nots);
            for (int i = 0; i < nots; i++) {
                write(-Sign.NOT);
            }
        }

        private void comparison(int open) {
            sum(open);
            if (isNext('<') || isNext('=')) {
                int sign = at(tape.tokens, next);
                next++;
                sum(open);
                write(-sign);
            }
        }

        private void sum(int open) {
            term(open);
            for (int i = 0; i < MOST_BYTES && (isNext('+') || isNext('-')); i++) {
                int sign = at(tape.tokens, next);
                next++;
                term(open);
                write(-sign);
            }
        }

        private void term(int open) {
            one(open);
            for (int i = 0; i < MOST_BYTES && isNext('*'); i++) {
                next++;
                one(open);
                write(-'*');
            }
        }

        private void one(int open) {
            int minuses = openAll('-', open);
            plainOne(open + minuses);
            for (int i = 0; i < minuses; i++) {
                write(-Sign.NEGATIVE);
            }
        }

        private void plainOne(int open) {
            int token = at(tape.tokens, next);
            if (isNext(Sign.NUMBER)) {
                write(tape.numberAt(next));
                next++;
            } else if (fault == NONE && Sign.isName(token)) {
                write(-token);
                next++;
            } else if (isNext('(') && open < MOST_OPEN) {
                next++;
                or(open + 1);
                expect(')');
            } else {
                fail();
            }
        }

        /** Goes past all of a sign that stand here in a row: how many. They stay open till what follows is read. */
        private int openAll(int sign, int open) {
            int many = 0;
            while (open + many < MOST_OPEN && isNext(sign)) {
                next++;
                many++;
            }
            return many;
        }

        private boolean isNext(int sign) {
            return fault == NONE && at(tape.tokens, next) == sign;
        }

        private void expect(int sign) {
            if (isNext(sign)) {
                next++;
            } else {
                fail();
            }
        }

        /** Only the first fault counts. */
        private void fail() {
            if (fault == NONE) {
                fault = at(tape.starts, next);
            }
        }

        private void write(int sign) {
            if (length < code.length) {
                store(code, length, sign);
                length++;
            }
        }
    }
}
