import java.util.HashMap;
import java.util.List;
import java.util.Map;
import java.util.function.Consumer;
import java.util.function.ToLongFunction;

/**
 * "REFUSALS, of several the first one told. They change nothing, but where it is told. What is asked changes nothing,
 * but where it is told." For each promise: each refusal, just outside and far, where two could be told the first of
 * them; then what is asked. Each on an object of its own, which must stay like one that was left alone.
 */
final class ChangesNothingTest {
    private static final int BAD = DrumOfGuilt.BAD, STATE = DrumOfGuilt.STATE, FULL = DrumOfGuilt.FULL;
    private static final long NO = DrumOfGuilt.NO;
    private static final int MIN = Integer.MIN_VALUE, MAX = Integer.MAX_VALUE;
    private static final Map<String, List<String>> LEFT_ALONE = new HashMap<>();

    public static void main(String[] args) {
        all();
        Checks.finish("ChangesNothingTest");
    }

    static void all() {
        refusedWrongs();
        refusedDeeds();
        refusedFeeds();
        refusedTexts();
        refusedPeople();
        refusedDusks();
        refusedBest();
        refusedGuesses();
        refusedJudges();
        refusedKindsAndPrides();
        refusedWhose();
        refusedLots();
        refusedSheets();
        refusedCopies();
        refusedPeopleBy();
        refusedTaken();
        askedOfPeople();
        askedOfDusk();
        askedOfWhatIsBest();
        askedOfSheets();
        askedOfLots();
    }

    private static DrumOfGuilt made(String which) {
        return which.equals("full") ? Made.full() : which.equals("rich") ? Made.rich() : Made.bare();
    }

    private static void unchanged(String call, String which, DrumOfGuilt x) {
        List<String> want = LEFT_ALONE.computeIfAbsent(which, key -> Made.allOf(made(key)));
        List<String> got = Made.allOf(x);
        int i = 0;
        while (i < got.size() && i < want.size() && got.get(i).equals(want.get(i))) {
            i++;
        }
        String otherwise = (i < got.size() ? got.get(i) : "") + ", it was " + (i < want.size() ? want.get(i) : "");
        boolean same = i == got.size() && i == want.size();
        Checks.due(call + " changes nothing" + (same ? "" : " (" + otherwise + ")"), same ? 1 : 0, 1);
    }

    private static void refused(String call, String which, ToLongFunction<DrumOfGuilt> refusing, long want) {
        DrumOfGuilt x = made(which);
        Checks.due(call, refusing.applyAsLong(x), want);
        unchanged(call, which, x);
    }

    private static void asked(String call, Consumer<DrumOfGuilt> asking) {
        for (String which : List.of("bare", "rich", "full")) {
            DrumOfGuilt x = made(which);
            asking.accept(x);
            unchanged(call + ": what is asked, " + which + ",", which, x);
        }
    }

    // ---- what is refused

    private static void refusedWrongs() {
        refused("3 wrong: BAD: DOERS: nobody", "rich", x -> x.wrong(0, 1, 0), BAD);
        refused("3 wrong: BAD: DOERS: one who isn't there", "rich", x -> x.wrong(32, 1, 0), BAD);
        refused("3 wrong: BAD: DOERS: one who is and one who isn't there", "rich", x -> x.wrong(33, 1, 0), BAD);
        refused("3 wrong: BAD: DOERS: past six", "full", x -> x.wrong(64, 1, 0), BAD);
        refused("3 wrong: BAD: DOERS: below 0", "rich", x -> x.wrong(-1, 1, 0), BAD);
        refused("3 wrong: BAD: DOERS: far below", "rich", x -> x.wrong(MIN, 1, 0), BAD);
        refused("3 wrong: BAD: DOERS: far below, and one who is there", "rich", x -> x.wrong(MIN | 1, 1, 0), BAD);
        refused("3 wrong: BAD: DOERS: far above", "rich", x -> x.wrong(MAX, 1, 0), BAD);
        refused("3 wrong: BAD: WEIGHT 0", "rich", x -> x.wrong(1, 0, 0), BAD);
        refused("3 wrong: BAD: WEIGHT 10", "rich", x -> x.wrong(1, 10, 0), BAD);
        refused("3 wrong: BAD: WEIGHT below 0", "rich", x -> x.wrong(1, -1, 0), BAD);
        refused("3 wrong: BAD: WEIGHT far below", "rich", x -> x.wrong(1, MIN, 0), BAD);
        refused("3 wrong: BAD: WEIGHT far above", "rich", x -> x.wrong(1, MAX, 0), BAD);
        refused("3 wrong: BAD: SEEN by one who isn't there", "rich", x -> x.wrong(1, 1, 32), BAD);
        refused("3 wrong: BAD: SEEN by one who is and one who isn't there", "rich", x -> x.wrong(1, 1, 34), BAD);
        refused("3 wrong: BAD: SEEN: below 0", "rich", x -> x.wrong(1, 1, -1), BAD);
        refused("3 wrong: BAD: SEEN: far below", "rich", x -> x.wrong(1, 1, MIN), BAD);
        refused("3 wrong: BAD: SEEN: far below, and one who is there", "rich", x -> x.wrong(1, 1, MIN | 2), BAD);
        refused("3 wrong: BAD: SEEN: far above", "rich", x -> x.wrong(1, 1, MAX - 1), BAD);
        refused("3 wrong: BAD: SEEN by the DOER", "rich", x -> x.wrong(1, 1, 1), BAD);
        refused("3 wrong: BAD: SEEN by one of DOERS, and another", "rich", x -> x.wrong(3, 1, 6), BAD);
        refused("3 wrong: BAD: there are no PEOPLE", "bare", x -> x.wrong(1, 1, 0), BAD);
        refused("3 wrong: BAD: there are no PEOPLE, nobody did it", "bare", x -> x.wrong(0, 1, 0), BAD);
        refused("3 wrong: FULL: the eleventh", "full", x -> x.wrong(1, 1, 0), FULL);
        refused("3 wrong: FULL: the eleventh, done by all", "full", x -> x.wrong(63, 9, 0), FULL);
        refused("3 wrong: BAD is told ahead of FULL: nobody did it", "full", x -> x.wrong(0, 1, 0), BAD);
        refused("3 wrong: BAD is told ahead of FULL: DOERS who aren't there", "full", x -> x.wrong(65, 1, 0), BAD);
        refused("3 wrong: BAD is told ahead of FULL: WEIGHT 0", "full", x -> x.wrong(1, 0, 0), BAD);
        refused("3 wrong: BAD is told ahead of FULL: WEIGHT 10", "full", x -> x.wrong(1, 10, 0), BAD);
        refused("3 wrong: BAD is told ahead of FULL: SEEN by one who isn't there", "full", x -> x.wrong(1, 1, 64), BAD);
        refused("3 wrong: BAD is told ahead of FULL: SEEN below 0", "full", x -> x.wrong(1, 1, MIN), BAD);
        refused("3 wrong: BAD is told ahead of FULL: SEEN by the DOER", "full", x -> x.wrong(1, 1, 1), BAD);
    }

    private static void refusedDeeds() {
        refused("2 count: BAD: just above", "rich", x -> x.count(6), BAD);
        refused("2 count: BAD: just below", "rich", x -> x.count(-1), BAD);
        refused("2 count: BAD: far above", "rich", x -> x.count(MAX), BAD);
        refused("2 count: BAD: far below", "rich", x -> x.count(MIN), BAD);
        refused("4 deed: -5: just behind the last", "rich", x -> x.deed(6, 0), -5);
        refused("4 deed: -5: below", "rich", x -> x.deed(-1, 0), -5);
        refused("4 deed: -5: of ten the eleventh", "full", x -> x.deed(10, 0), -5);
        refused("4 deed: -5: far above", "full", x -> x.deed(MAX, 1), -5);
        refused("4 deed: -5: far below", "full", x -> x.deed(MIN, 2), -5);
        refused("4 deed: -5: there are none", "bare", x -> x.deed(0, 0), -5);
        refused("4 deed: -7: what just above", "rich", x -> x.deed(5, 3), -7);
        refused("4 deed: -7: what just below", "rich", x -> x.deed(5, -1), -7);
        refused("4 deed: -7: what far above", "rich", x -> x.deed(0, MAX), -7);
        refused("4 deed: -7: what far below", "rich", x -> x.deed(0, MIN), -7);
        refused("4 deed: -5 is told ahead of -7: above", "rich", x -> x.deed(6, 3), -5);
        refused("4 deed: -5 is told ahead of -7: below", "rich", x -> x.deed(-1, -1), -5);
        refused("5 amend: -5: just behind the last", "rich", x -> x.amend(6), -5);
        refused("5 amend: -5: below", "rich", x -> x.amend(-1), -5);
        refused("5 amend: -5: of ten the eleventh", "full", x -> x.amend(10), -5);
        refused("5 amend: -5: far above", "rich", x -> x.amend(MAX), -5);
        refused("5 amend: -5: far below", "rich", x -> x.amend(MIN), -5);
        refused("5 amend: -5: there are none", "bare", x -> x.amend(0), -5);
    }

    private static void refusedFeeds() {
        for (int n : new int[] {0, 6, -1, 7, MIN, MAX}) {
            refused("6 feed: BAD: n " + n, "rich", x -> x.feed(n, 1, 2, 3, 4, 5), BAD);
            refused("6 feed: BAD is told ahead of FULL: n " + n, "full", x -> x.feed(n, 1, 2, 3, 4, 5), BAD);
        }
        for (int no : new int[] {-1, 256, MIN, MAX}) {
            for (int n = 1; n <= 5; n++) {
                int first = n;
                String call = "6 feed: BAD: of " + n + " " + no + " as ";
                refused(call + "a", "rich", x -> x.feed(first, no, 1, 1, 1, 1), BAD);
                refused(call + "b", "rich", x -> x.feed(first, 1, no, 1, 1, 1), BAD);
                refused(call + "c", "rich", x -> x.feed(first, 1, 1, no, 1, 1), BAD);
                refused(call + "d", "rich", x -> x.feed(first, 1, 1, 1, no, 1), BAD);
                refused(call + "e", "rich", x -> x.feed(first, 1, 1, 1, 1, no), BAD);
            }
            refused("6 feed: BAD is told ahead of FULL: " + no, "full", x -> x.feed(1, no, 1, 1, 1, 1), BAD);
            refused("6 feed: BAD is told ahead of FULL: behind n, " + no, "full", x -> x.feed(1, 1, 1, 1, 1, no), BAD);
        }
        refused("6 feed: FULL: one has no room", "full", x -> x.feed(1, 1, 1, 1, 1, 1), FULL);
        refused("6 feed: FULL: five have no room", "full", x -> x.feed(5, 1, 1, 1, 1, 1), FULL);
    }

    private static void refusedTexts() {
        refused("7 text: FULL is told ahead of the FAULT; then THE TAPE stays", "full", DrumOfGuilt::text, FULL);
        refused("8 force: BAD: just behind the last", "rich", x -> x.force(3), BAD);
        refused("8 force: BAD: of six the seventh", "full", x -> x.force(6), BAD);
        refused("8 force: BAD: below", "rich", x -> x.force(-1), BAD);
        refused("8 force: BAD: far above", "rich", x -> x.force(MAX), BAD);
        refused("8 force: BAD: far below", "rich", x -> x.force(MIN), BAD);
        refused("9 asks: BAD: part just above", "rich", x -> x.asks(3, 0, 0), BAD);
        refused("9 asks: BAD: part just below", "rich", x -> x.asks(-1, 0, 0), BAD);
        refused("9 asks: BAD: part far above", "rich", x -> x.asks(MAX, 0, 0), BAD);
        refused("9 asks: BAD: part far below", "rich", x -> x.asks(MIN, 0, 0), BAD);
        refused("9 asks: BAD: no such one, just behind the last", "rich", x -> x.asks(0, 5, 0), BAD);
        refused("9 asks: BAD: no such one, of six the seventh", "full", x -> x.asks(0, 6, 0), BAD);
        refused("9 asks: BAD: no such one, below", "rich", x -> x.asks(0, -1, 0), BAD);
        refused("9 asks: BAD: no such one, far above", "rich", x -> x.asks(0, MAX, 0), BAD);
        refused("9 asks: BAD: no such one, far below", "rich", x -> x.asks(0, MIN, 0), BAD);
        refused("9 asks: BAD: no such WRONG, just behind the last", "rich", x -> x.asks(0, 0, 6), BAD);
        refused("9 asks: BAD: no such WRONG, of ten the eleventh", "full", x -> x.asks(0, 0, 10), BAD);
        refused("9 asks: BAD: no such WRONG, below", "rich", x -> x.asks(0, 0, -1), BAD);
        refused("9 asks: BAD: no such WRONG, far above", "rich", x -> x.asks(0, 0, MAX), BAD);
        refused("9 asks: BAD: no such WRONG, far below", "rich", x -> x.asks(0, 0, MIN), BAD);
        refused("9 asks: BAD: there is nothing", "bare", x -> x.asks(0, 0, 0), BAD);
    }

    private static void refusedPeople() {
        for (int no : new int[] {60, -1, MAX, MIN}) {
            refused("10 person: BAD: kindMore " + no, "rich", x -> x.person(no, 50), BAD);
            refused("10 person: BAD is told ahead of FULL: kindMore " + no, "full", x -> x.person(no, 50), BAD);
        }
        for (int no : new int[] {100, -1, MAX, MIN}) {
            refused("10 person: BAD: PRIDE " + no, "rich", x -> x.person(12, no), BAD);
            refused("10 person: BAD is told ahead of FULL: PRIDE " + no, "full", x -> x.person(12, no), BAD);
        }
        refused("10 person: FULL: the seventh", "full", x -> x.person(59, 99), FULL);
        for (int no : new int[] {5, -1, MAX, MIN}) {
            refused("11 put: -5: " + no, "rich", x -> x.put(no, 0, 50), -5);
            refused("11 put: -5: NAME, " + no, "rich", x -> x.put(no, 1, 50), -5);
            refused("11 put: -5 is told ahead of -7: what, " + no, "rich", x -> x.put(no, 2, 50), -5);
            refused("11 put: -5 is told ahead of -7: v, " + no, "rich", x -> x.put(no, 1, 1000), -5);
            refused("11 put: -5 is told ahead of -7: v below, " + no, "rich", x -> x.put(no, 0, -1), -5);
            refused("12 told: -5: " + no, "rich", x -> x.told(no, 0), -5);
            refused("12 told: -5 is told ahead of -7: " + no, "rich", x -> x.told(no, 6), -5);
        }
        refused("11 put: -5: there is nobody", "bare", x -> x.put(0, 0, 50), -5);
        refused("12 told: -5: there is nobody", "bare", x -> x.told(0, 0), -5);
        for (int no : new int[] {2, -1, MAX, MIN}) {
            refused("11 put: -7: what " + no, "rich", x -> x.put(0, no, 50), -7);
        }
        for (int no : new int[] {-1, MAX, MIN}) {
            refused("11 put: -7: PRIDE " + no, "rich", x -> x.put(0, 0, no), -7);
            refused("11 put: -7: NAME " + no, "rich", x -> x.put(0, 1, no), -7);
        }
        refused("11 put: -7: PRIDE 100", "rich", x -> x.put(0, 0, 100), -7);
        refused("11 put: -7: NAME 1000", "rich", x -> x.put(0, 1, 1000), -7);
        for (int no : new int[] {6, -1, MAX, MIN}) {
            refused("12 told: -7: what " + no, "rich", x -> x.told(0, no), -7);
        }
    }

    private static void refusedDusks() {
        for (int no : new int[] {5, -1, MAX, MIN}) {
            refused("13 dusk: -5: " + no, "rich", x -> x.dusk(no, 0), -5);
            refused("13 dusk: -5 is told ahead of -7: " + no, "rich", x -> x.dusk(no, 4), -5);
        }
        refused("13 dusk: -5: there is nobody", "bare", x -> x.dusk(0, 0), -5);
        for (int no : new int[] {4, -1, MAX, MIN}) {
            refused("13 dusk: -7: what " + no, "rich", x -> x.dusk(0, no), -7);
            refused("14 town: BAD: " + no, "rich", x -> x.town(no), BAD);
        }
    }

    private static void refusedBest() {
        for (int no : new int[] {5, -1, MAX, MIN}) {
            refused("16 best: -5: " + no, "rich", x -> x.best(no, 0), -5);
            refused("16 best: -5 is told ahead of -7: " + no, "rich", x -> x.best(no, 2), -5);
            refused("17 few: -5: " + no, "rich", x -> x.few(no), -5);
            refused("18 hire: -5: " + no, "rich", x -> x.hire(no, 0), -5);
            refused("18 hire: -5 is told ahead of -7: " + no, "rich", x -> x.hire(no, 2), -5);
        }
        refused("16 best: -5: there is nobody", "bare", x -> x.best(0, 0), -5);
        refused("17 few: -5: there is nobody", "bare", x -> x.few(0), -5);
        refused("18 hire: -5: there is nobody", "bare", x -> x.hire(0, 0), -5);
        for (int no : new int[] {2, -1, MAX, MIN}) {
            refused("16 best: -7: what " + no, "rich", x -> x.best(0, no), -7);
            refused("18 hire: -7: what " + no, "rich", x -> x.hire(0, no), -7);
            refused("19 away: BAD: " + no, "rich", x -> x.away(no), BAD);
            refused("20 undone: BAD: " + no, "rich", x -> x.undone(no), BAD);
            refused("21 pair: BAD: " + no, "rich", x -> x.pair(no), BAD);
            refused("19 away: BAD, though there is nobody: " + no, "bare", x -> x.away(no), BAD);
            refused("20 undone: BAD, though there are no WRONGS: " + no, "bare", x -> x.undone(no), BAD);
            refused("21 pair: BAD, though there are fewer than two: " + no, "bare", x -> x.pair(no), BAD);
        }
    }

    private static void refusedGuesses() {
        for (int no : new int[] {5, -1, MAX, MIN}) {
            refused("22 guess: -5: " + no, "rich", x -> x.guess(no, 3, 0), -5);
            refused("22 guess: -5 is told ahead of -7: what, " + no, "rich", x -> x.guess(no, 3, 2), -5);
            refused("22 guess: -5 is told ahead of -7: beats, " + no, "rich", x -> x.guess(no, -1, 0), -5);
            refused("22 guess: -5 is told ahead of -7: beats above, " + no, "rich", x -> x.guess(no, 1000, 1), -5);
            refused("23 likely: NO: no such one: " + no, "rich", x -> x.likely(no, 0, 0, 1), NO);
            refused("24 share: NO: no such one: " + no, "rich", x -> x.share(no, 1), NO);
        }
        for (int no : new int[] {6, -1, MAX, MIN}) {
            refused("23 likely: NO: no such WRONG: " + no, "rich", x -> x.likely(0, 0, no, 1), NO);
        }
        for (int no : new int[] {1000, -1, MAX, MIN}) {
            refused("22 guess: -7: beats " + no, "rich", x -> x.guess(0, no, 0), -7);
            refused("23 likely: NO: beats " + no, "rich", x -> x.likely(0, no, 0, 1), NO);
        }
        for (int no : new int[] {2, -1, MAX, MIN}) {
            refused("22 guess: -7: what " + no, "rich", x -> x.guess(0, 3, no), -7);
            refused("23 likely: NO: part " + no, "rich", x -> x.likely(0, 0, 0, no), NO);
            refused("24 share: NO: part " + no, "rich", x -> x.share(0, no), NO);
        }
        refused("22 guess: -5: there is nobody", "bare", x -> x.guess(0, 0, 0), -5);
        refused("23 likely: NO: there is nobody", "bare", x -> x.likely(0, 0, 0, 0), NO);
        refused("24 share: NO: there is nobody", "bare", x -> x.share(0, 0), NO);
        refused("23 likely: NO: there are none of these", "rich", x -> x.likely(0, 999, 0, 0), NO);
    }

    private static void refusedJudges() {
        for (int no : new int[] {4, -1, MAX, MIN}) {
            refused("25 judge: BAD: SHEET " + no, "rich", x -> x.judge(no), BAD);
            refused("29 laws: BAD: SHEET " + no, "rich", x -> x.laws(no), BAD);
            refused("30 film: BAD: SHEET " + no, "rich", x -> x.film(no), BAD);
        }
        for (int s = 0; s < 4; s++) {
            int missing = s;
            refused("25 judge: -11: missing, " + s, "bare", x -> x.judge(missing), -11);
            refused("29 laws: -11: missing, " + s, "bare", x -> x.laws(missing), -11);
        }
        refused("25 judge: -11: missing", "rich", x -> x.judge(2), -11);
        refused("29 laws: -11: missing", "rich", x -> x.laws(2), -11);
        refused("25 judge: BAD: it tells of more than there are", "rich", x -> x.judge(1), BAD);
        refused("29 laws: BAD: it tells of more than there are", "rich", x -> x.laws(3), BAD);
    }

    private static void refusedKindsAndPrides() {
        for (int no : new int[] {4, -1, MAX, MIN}) {
            refused("26 kinds: BAD: SHEET " + no, "rich", x -> x.kinds(no, 0, 0), BAD);
            refused("26 kinds: BAD is told ahead of -5: SHEET " + no, "rich", x -> x.kinds(no, 5, 0), BAD);
            refused("26 kinds: BAD is told ahead of -7: SHEET " + no, "rich", x -> x.kinds(no, 0, 2), BAD);
            refused("27 prides: BAD: SHEET " + no, "rich", x -> x.prides(no, 0, 0), BAD);
            refused("27 prides: BAD is told ahead of -5: SHEET " + no, "rich", x -> x.prides(no, 5, 0), BAD);
            refused("27 prides: BAD is told ahead of -7: SHEET " + no, "rich", x -> x.prides(no, 0, 2), BAD);
        }
        refused("26 kinds: -11: missing", "rich", x -> x.kinds(2, 0, 0), -11);
        refused("26 kinds: -11 is told ahead of -5", "rich", x -> x.kinds(2, 5, 0), -11);
        refused("26 kinds: -11 is told ahead of -7", "rich", x -> x.kinds(2, 0, 2), -11);
        refused("26 kinds: BAD: it tells of more than there are", "rich", x -> x.kinds(1, 0, 0), BAD);
        refused("26 kinds: BAD is told ahead of -5: it tells of more", "rich", x -> x.kinds(1, -1, 0), BAD);
        refused("26 kinds: BAD is told ahead of -7: it tells of more", "rich", x -> x.kinds(1, 0, -1), BAD);
        refused("27 prides: -11: missing", "rich", x -> x.prides(2, 0, 0), -11);
        refused("27 prides: -11 is told ahead of -5", "rich", x -> x.prides(2, 5, 0), -11);
        refused("27 prides: -11 is told ahead of -7", "rich", x -> x.prides(2, 0, 2), -11);
        refused("27 prides: BAD: it tells of more than there are", "rich", x -> x.prides(1, 0, 0), BAD);
        refused("27 prides: BAD is told ahead of -5: it tells of more", "rich", x -> x.prides(1, -1, 0), BAD);
        refused("27 prides: BAD is told ahead of -7: it tells of more", "rich", x -> x.prides(1, 0, -1), BAD);
        for (int no : new int[] {5, -1, MAX, MIN}) {
            refused("26 kinds: -5: " + no, "rich", x -> x.kinds(0, no, 0), -5);
            refused("26 kinds: -5 is told ahead of -7: " + no, "rich", x -> x.kinds(0, no, 2), -5);
            refused("27 prides: -5: " + no, "rich", x -> x.prides(0, no, 0), -5);
            refused("27 prides: -5 is told ahead of -7: " + no, "rich", x -> x.prides(0, no, 2), -5);
        }
        for (int no : new int[] {2, -1, MAX, MIN}) {
            refused("26 kinds: -7: sort " + no, "rich", x -> x.kinds(0, 0, no), -7);
            refused("27 prides: -7: what " + no, "rich", x -> x.prides(0, 0, no), -7);
        }
        refused("26 kinds: -11: missing, there is nobody", "bare", x -> x.kinds(0, 0, 0), -11);
        refused("27 prides: -11: missing, there is nobody", "bare", x -> x.prides(0, 0, 0), -11);
    }

    private static void refusedWhose() {
        for (int no : new int[] {4, -1, MAX, MIN}) {
            refused("28 whose: BAD: SHEET " + no, "rich", x -> x.whose(no, 0, 0), BAD);
            refused("28 whose: BAD is told ahead of -6: SHEET " + no, "rich", x -> x.whose(no, 6, 0), BAD);
            refused("28 whose: BAD is told ahead of -7: SHEET " + no, "rich", x -> x.whose(no, 0, 2), BAD);
        }
        refused("28 whose: -11: missing", "rich", x -> x.whose(2, 0, 0), -11);
        refused("28 whose: -11 is told ahead of -6", "rich", x -> x.whose(2, 6, 0), -11);
        refused("28 whose: -11 is told ahead of -7", "rich", x -> x.whose(2, 0, 2), -11);
        refused("28 whose: BAD: it tells of more than there are", "rich", x -> x.whose(1, 0, 0), BAD);
        refused("28 whose: BAD is told ahead of -6: it tells of more", "rich", x -> x.whose(1, -1, 0), BAD);
        refused("28 whose: BAD is told ahead of -7: it tells of more", "rich", x -> x.whose(1, 0, -1), BAD);
        for (int no : new int[] {6, -1, MAX, MIN}) {
            refused("28 whose: -6: " + no, "rich", x -> x.whose(0, no, 0), -6);
            refused("28 whose: -6 is told ahead of -7: " + no, "rich", x -> x.whose(0, no, 2), -6);
        }
        for (int no : new int[] {2, -1, MAX, MIN}) {
            refused("28 whose: -7: what " + no, "rich", x -> x.whose(0, 0, no), -7);
        }
    }

    private static void refusedLots() {
        for (int no : new int[] {100000, -1, MAX, MIN}) {
            refused("31 drawn: BAD: SEED " + no, "rich", x -> x.drawn(no, 0), BAD);
            refused("31 drawn: BAD, though there is nobody: SEED " + no, "bare", x -> x.drawn(no, 0), BAD);
            refused("32 odds: NO: SEED " + no, "rich", x -> x.odds(no, 1, 0, 1), NO);
        }
        for (int no : new int[] {2, -1, MAX, MIN}) {
            refused("31 drawn: BAD: what " + no, "rich", x -> x.drawn(0, no), BAD);
            refused("31 drawn: BAD, though there is nobody: what " + no, "bare", x -> x.drawn(0, no), BAD);
            refused("32 odds: NO: part " + no, "rich", x -> x.odds(0, 1, 0, no), NO);
        }
        for (int no : new int[] {0, 41, -1, MAX, MIN}) {
            refused("32 odds: NO: " + no + " seeds, above the line", "rich", x -> x.odds(0, no, 0, 0), NO);
            refused("32 odds: NO: " + no + " seeds, below the line", "rich", x -> x.odds(0, no, 0, 1), NO);
            refused("32 odds: NO: " + no + " seeds from the last on", "rich", x -> x.odds(99999, no, 0, 1), NO);
        }
        for (int no : new int[] {5, -1, MAX, MIN}) {
            refused("32 odds: NO: no such one: " + no, "rich", x -> x.odds(0, 1, no, 1), NO);
        }
        refused("32 odds: NO: there is nobody", "bare", x -> x.odds(0, 1, 0, 1), NO);
        refused("34 back: STATE: there is no IMAGE", "bare", DrumOfGuilt::back, STATE);
    }

    private static void refusedSheets() {
        for (int no : new int[] {4, -1, MAX, MIN}) {
            refused("35 sheet: BAD: SHEET " + no, "rich", x -> x.sheet(no, 2, 5), BAD);
            refused("35 sheet: BAD: SHEET, though it is to be missing: " + no, "rich", x -> x.sheet(no, -1, 0), BAD);
            refused("35 sheet: BAD is told ahead of -14: SHEET " + no, "rich", x -> x.sheet(no, 2, -1), BAD);
            refused("36 cell: BAD: SHEET " + no, "rich", x -> x.cell(no, 0, 7), BAD);
            refused("36 cell: BAD is told ahead of -12: SHEET " + no, "rich", x -> x.cell(no, -1, 7), BAD);
        }
        for (int no : new int[] {3, -2, MAX, MIN}) {
            refused("35 sheet: BAD: sort " + no, "rich", x -> x.sheet(1, no, 5), BAD);
            refused("35 sheet: BAD is told ahead of -14: sort " + no, "rich", x -> x.sheet(1, no, -1), BAD);
        }
        for (int no : new int[] {41, MAX}) {
            refused("35 sheet: BAD: n " + no, "rich", x -> x.sheet(0, 1, no), BAD);
            refused("35 sheet: BAD: n of a missing one, " + no, "bare", x -> x.sheet(3, 1, no), BAD);
        }
        for (int no : new int[] {-1, -41, MIN}) {
            refused("35 sheet: -14: n " + no, "rich", x -> x.sheet(0, 1, no), -14);
            refused("35 sheet: -14: n of a missing one, " + no, "bare", x -> x.sheet(3, 1, no), -14);
        }
        for (int no : new int[] {0, -1, 40, MAX, MIN}) {
            refused("36 cell: -11 (ahead of -12): place " + no, "rich", x -> x.cell(2, no, 7), -11);
        }
        for (int no : new int[] {8, -1, MAX, MIN}) {
            refused("36 cell: -12: of eight place " + no, "rich", x -> x.cell(1, no, 7), -12);
        }
        refused("36 cell: -12: of five place 5", "rich", x -> x.cell(0, 5, 7), -12);
    }

    private static void refusedCopies() {
        for (int no : new int[] {4, -1, MAX, MIN}) {
            refused("37 copy: BAD: the one, " + no, "rich", x -> x.copy(no, 0, 1, 0, 1), BAD);
            refused("37 copy: BAD: the other, " + no, "rich", x -> x.copy(1, 0, no, 0, 1), BAD);
            refused("37 copy: BAD is told ahead of -11: the other is missing, " + no, "rich", x -> x.copy(no, 0, 2, 0, 1), BAD);
            refused("37 copy: BAD is told ahead of -11: the one is missing, " + no, "rich", x -> x.copy(2, 0, no, 0, 1), BAD);
            refused("37 copy: BAD is told ahead of -12: " + no, "rich", x -> x.copy(no, 0, 1, 0, -1), BAD);
            refused("37 copy: BAD is told ahead of -12: the other, " + no, "rich", x -> x.copy(1, 0, no, -1, 1), BAD);
        }
        refused("37 copy: -11: the one is missing", "rich", x -> x.copy(2, 0, 1, 0, 1), -11);
        refused("37 copy: -11: the other is missing", "rich", x -> x.copy(1, 0, 2, 0, 1), -11);
        refused("37 copy: -11: both are missing", "bare", x -> x.copy(0, 0, 1, 0, 1), -11);
        refused("37 copy: -11: it is missing itself", "rich", x -> x.copy(2, 0, 2, 0, 0), -11);
        refused("37 copy: -11, though n is 0", "rich", x -> x.copy(1, 0, 2, 0, 0), -11);
        refused("37 copy: -11 is told ahead of -12: n", "rich", x -> x.copy(1, 0, 2, 0, -1), -11);
        refused("37 copy: -11 is told ahead of -12: i", "rich", x -> x.copy(2, -1, 1, 0, 1), -11);
        refused("37 copy: -11 is told ahead of -12: j", "rich", x -> x.copy(1, 0, 2, 9, 1), -11);
        refused("37 copy: -13: ints and bytes", "rich", x -> x.copy(1, 0, 3, 2, 1), -13);
        refused("37 copy: -13: bytes and shorts", "rich", x -> x.copy(3, 0, 0, 0, 1), -13);
        refused("37 copy: -13: shorts and ints", "rich", x -> x.copy(0, 0, 1, 0, 1), -13);
        refused("37 copy: -13, though n is 0", "rich", x -> x.copy(1, 0, 3, 0, 0), -13);
        refused("37 copy: -13 is told ahead of -12: n", "rich", x -> x.copy(1, 0, 3, 0, -1), -13);
        refused("37 copy: -13 is told ahead of -12: i", "rich", x -> x.copy(1, 8, 3, 0, 1), -13);
        refused("37 copy: -13 is told ahead of -12: j", "rich", x -> x.copy(1, 0, 3, -1, 1), -13);
        for (int no : new int[] {-1, -8, MIN}) {
            refused("37 copy: -12: i " + no, "rich", x -> x.copy(1, no, 1, 0, 1), -12);
            refused("37 copy: -12: j " + no, "rich", x -> x.copy(1, 0, 1, no, 1), -12);
            refused("37 copy: -12: n " + no, "rich", x -> x.copy(1, 4, 1, 0, no), -12);
            refused("37 copy: -12: i, though n is 0, " + no, "rich", x -> x.copy(1, no, 1, 0, 0), -12);
            refused("37 copy: -12: j, though n is 0, " + no, "rich", x -> x.copy(1, 0, 1, no, 0), -12);
        }
        for (int no : new int[] {8, 40, MAX}) {
            refused("37 copy: -12: past the one's end, " + no, "rich", x -> x.copy(1, no, 1, 0, 1), -12);
            refused("37 copy: -12: past the other's end, " + no, "rich", x -> x.copy(1, 0, 1, no, 1), -12);
            refused("37 copy: -12: n past the one's end, " + no, "rich", x -> x.copy(1, 1, 1, 0, no), -12);
            refused("37 copy: -12: n past the other's end, " + no, "rich", x -> x.copy(1, 0, 1, 1, no), -12);
        }
        refused("37 copy: -12: n past the one's end alone", "rich", x -> x.copy(1, 5, 1, 0, 4), -12);
        refused("37 copy: -12: n past the other's end alone", "rich", x -> x.copy(1, 0, 1, 5, 4), -12);
        refused("37 copy: -12: past the one's end, though n is 0", "rich", x -> x.copy(1, 9, 1, 0, 0), -12);
        refused("37 copy: -12: past the other's end, though n is 0", "rich", x -> x.copy(1, 0, 1, 9, 0), -12);
        refused("37 copy: -12: i and n far above", "rich", x -> x.copy(1, MAX, 1, 0, MAX), -12);
        refused("37 copy: -12: j and n far above", "rich", x -> x.copy(1, 0, 1, MAX, MAX), -12);
    }

    private static void refusedPeopleBy() {
        for (int no : new int[] {4, -1, MAX, MIN}) {
            refused("38 peopleBy: BAD: SHEET " + no, "rich", x -> x.peopleBy(no, 2, 0, 1), BAD);
            refused("38 peopleBy: BAD is told ahead of -12: SHEET " + no, "rich", x -> x.peopleBy(no, 2, -1, 1), BAD);
        }
        for (int no : new int[] {3, -1, MAX, MIN}) {
            refused("38 peopleBy: BAD (ahead of -13): sort " + no, "rich", x -> x.peopleBy(1, no, 0, 1), BAD);
            refused("38 peopleBy: BAD is told ahead of -11: sort " + no, "rich", x -> x.peopleBy(2, no, 0, 1), BAD);
            refused("38 peopleBy: BAD is told ahead of -12: sort " + no, "rich", x -> x.peopleBy(1, no, -1, 1), BAD);
        }
        for (int no : new int[] {7, -1, MAX, MIN}) {
            refused("38 peopleBy: BAD: n " + no, "rich", x -> x.peopleBy(1, 2, 0, no), BAD);
            refused("38 peopleBy: BAD is told ahead of -11: n " + no, "rich", x -> x.peopleBy(2, 2, 0, no), BAD);
            refused("38 peopleBy: BAD is told ahead of -13: n " + no, "rich", x -> x.peopleBy(1, 1, 0, no), BAD);
            refused("38 peopleBy: BAD is told ahead of -12: n " + no, "rich", x -> x.peopleBy(1, 2, -1, no), BAD);
            refused("38 peopleBy: -12: from " + no, "rich", x -> x.peopleBy(1, 2, no, 1), -12);
            refused("38 peopleBy: -11 is told ahead of -12: from " + no, "rich", x -> x.peopleBy(2, 2, no, 1), -11);
            refused("38 peopleBy: -13 is told ahead of -12: from " + no, "rich", x -> x.peopleBy(1, 1, no, 1), -13);
        }
        refused("38 peopleBy: -11: missing", "rich", x -> x.peopleBy(2, 2, 0, 1), -11);
        refused("38 peopleBy: -11, though n is 0", "rich", x -> x.peopleBy(2, 2, 0, 0), -11);
        refused("38 peopleBy: -13: ints as bytes", "rich", x -> x.peopleBy(1, 0, 0, 1), -13);
        refused("38 peopleBy: -13: ints as shorts", "rich", x -> x.peopleBy(1, 1, 0, 1), -13);
        refused("38 peopleBy: -13: bytes as ints", "rich", x -> x.peopleBy(3, 2, 0, 1), -13);
        refused("38 peopleBy: -13, though n is 0", "rich", x -> x.peopleBy(3, 2, 0, 0), -13);
        refused("38 peopleBy: -12: half of the first pair lies outside", "rich", x -> x.peopleBy(1, 2, 7, 1), -12);
        refused("38 peopleBy: -12: the first pair lies outside", "rich", x -> x.peopleBy(1, 2, 8, 1), -12);
    }

    private static void refusedTaken() {
        for (int no : new int[] {7, -1, MAX, MIN}) {
            refused("39 taken: BAD: kind " + no, "rich", x -> x.taken(0, no), BAD);
            refused("39 taken: BAD is told ahead of -12: kind " + no, "rich", x -> x.taken(16, no), BAD);
            refused("39 taken: BAD is told ahead of -11: kind " + no, "rich", x -> x.taken(5, no), BAD);
            refused("39 taken: BAD is told ahead of -11: kind of a WRONG " + no, "rich", x -> x.taken(12, no), BAD);
        }
        for (int no : new int[] {16, -1, MAX, MIN}) {
            refused("39 taken: -12: place " + no, "rich", x -> x.taken(no, 0), -12);
            refused("39 taken: -12: place taken for a WRONG " + no, "rich", x -> x.taken(no, 6), -12);
        }
        refused("39 taken: -11: none such: one", "rich", x -> x.taken(5, 0), -11);
        refused("39 taken: -11 is told ahead of -13: one for a WRONG", "rich", x -> x.taken(5, 6), -11);
        refused("39 taken: -11: none such: a WRONG", "rich", x -> x.taken(12, 6), -11);
        refused("39 taken: -11 is told ahead of -13: a WRONG for one", "rich", x -> x.taken(15, 0), -11);
        refused("39 taken: -11: there is nothing", "bare", x -> x.taken(0, 0), -11);
        refused("39 taken: -11: there is nothing, taken for a WRONG", "bare", x -> x.taken(6, 6), -11);
        refused("39 taken: -13: one of another KIND", "rich", x -> x.taken(0, 1), -13);
        refused("39 taken: -13: one taken for a WRONG", "rich", x -> x.taken(0, 6), -13);
        refused("39 taken: -13: a WRONG taken for one", "rich", x -> x.taken(6, 0), -13);
    }

    // ---- what is asked

    private static void askedOfPeople() {
        asked("2 count", x -> {
            for (int what = 0; what < 6; what++) {
                x.count(what);
            }
        });
        asked("4 deed", x -> {
            for (int k = 0; k < 10; k++) {
                x.deed(k, k % 3);
            }
        });
        asked("9 asks", x -> {
            for (int p = 0; p < 6; p++) {
                x.asks(p % 3, p, p);
            }
        });
        asked("12 told", x -> {
            for (int p = 0; p < 6; p++) {
                x.told(p, p);
            }
        });
        asked("39 taken", x -> {
            for (int i = 0; i < 16; i++) {
                x.taken(i, i < 6 ? 0 : 6);
            }
        });
    }

    private static void askedOfDusk() {
        asked("13 dusk", x -> {
            for (int p = 0; p < 6; p++) {
                x.dusk(p, 1);
                x.dusk(p, 3);
            }
        });
        asked("14 town", x -> {
            for (int what = 0; what < 4; what++) {
                x.town(what);
            }
        });
    }

    private static void askedOfWhatIsBest() {
        asked("16 best", x -> {
            for (int p = 0; p < 6; p++) {
                x.best(p, p % 2);
            }
        });
        asked("17 few", x -> {
            for (int p = 0; p < 6; p++) {
                x.few(p);
            }
        });
        asked("18 hire", x -> {
            for (int p = 0; p < 6; p++) {
                x.hire(p, p % 2);
            }
        });
        asked("19 away", x -> x.away(x.away(1) % 2));
        asked("20 undone", x -> x.undone(x.undone(1) % 2));
        asked("21 pair", x -> x.pair(x.pair(1) % 2));
        asked("22 guess", x -> {
            for (int p = 0; p < 6; p++) {
                x.guess(p, p, p % 2);
            }
        });
        asked("23 likely", x -> {
            for (int p = 0; p < 6; p++) {
                x.likely(p, p, p, p % 2);
            }
        });
        asked("24 share", x -> {
            for (int p = 0; p < 6; p++) {
                x.share(p, p % 2);
            }
        });
    }

    private static void askedOfSheets() {
        asked("25 judge", x -> {
            for (int s = 0; s < 4; s++) {
                x.judge(s);
            }
        });
        asked("26 kinds", x -> {
            for (int p = 0; p < 6; p++) {
                x.kinds(0, p, 0);
                x.kinds(0, p, 1);
            }
        });
        asked("27 prides", x -> {
            for (int p = 0; p < 6; p++) {
                x.prides(0, p, p % 2);
            }
        });
        asked("28 whose", x -> {
            for (int k = 0; k < 10; k++) {
                x.whose(0, k, k % 2);
            }
        });
        asked("29 laws", x -> x.laws(0));
    }

    private static void askedOfLots() {
        asked("31 drawn", x -> x.drawn(4321, x.drawn(1234, 1) % 2));
        asked("32 odds", x -> {
            for (int p = 0; p < 6; p++) {
                x.odds(99990, 20, p, p % 2);
            }
        });
    }
}
