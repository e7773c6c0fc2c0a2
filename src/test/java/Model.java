import java.lang.reflect.Array;
import java.util.ArrayDeque;
import java.util.ArrayList;
import java.util.Arrays;
import java.util.Deque;
import java.util.List;
import java.util.function.ToIntFunction;
import java.util.regex.Matcher;
import java.util.regex.Pattern;

/**
 * A second program for the same document, for RunsTest: written as near to the document's words as can be,
 * without a look at speed or room, and another way than the first: kinds are classes, evenings in thought are
 * copies, sheets are Java's own rows, and texts are read without recursion, by a stack of what is open.
 */
final class Model {
    private static final int BAD = -2, STATE = -3, FULL = -4;
    private static final long NO = -4611686018427387904L;

    /** What the names of a text stand for, in the document's order. */
    private record Facts(int weight, int shared, int seen, int day, int pride, int more) {
    }

    private record Text(ToIntFunction<Facts> strokes, ToIntFunction<Facts> doubts, ToIntFunction<Facts> pays) {
        int says(int part, Facts facts) {
            int said = (part == 0 ? strokes : part == 1 ? doubts : pays).applyAsInt(facts);
            return said < 0 ? 0 : Math.min(said, part == 0 ? 20 : 99);
        }
    }

    private static final class Wrong {
        int doers;
        final int weight;
        int seers;

        Wrong(int doers, int weight, int seers) {
            this.doers = doers;
            this.weight = weight;
            this.seers = seers;
        }

        boolean by(int p) {
            return (doers & 1 << p) != 0;
        }

        boolean seenBy(int p) {
            return (seers & 1 << p) != 0;
        }
    }

    private static class Person {
        final int kind;
        final int more;
        int pride;
        int name = 500;

        Person(int kind, int more, int pride) {
            this.kind = kind;
            this.more = more;
            this.pride = pride;
        }

        int strokes(int said, Wrong wrong) {
            return said;
        }

        int doubts(int said, int off) {
            return said;
        }

        int asks(int said) {
            return said;
        }
    }

    private static class Child extends Person {
        Child(int kind, int more, int pride) {
            super(kind, more, pride);
        }

        @Override
        int strokes(int said, Wrong wrong) {
            return super.strokes(said, wrong) + more;
        }

        @Override
        int asks(int said) {
            return 1;
        }
    }

    private static class Banker extends Person {
        Banker(int kind, int more, int pride) {
            super(kind, more, pride);
        }

        @Override
        int strokes(int said, Wrong wrong) {
            return super.strokes(said, wrong) / 2;
        }

        @Override
        int doubts(int said, int off) {
            return off <= 2 ? 0 : super.doubts(said, off);
        }
    }

    private static final class Saint extends Child {
        Saint(int kind, int more, int pride) {
            super(kind, more, pride);
        }

        @Override
        int strokes(int said, Wrong wrong) {
            return 2 * super.strokes(said, wrong);
        }

        @Override
        int doubts(int said, int off) {
            return super.doubts(said, off) / 2;
        }
    }

    private static final class Thief extends Banker {
        Thief(int kind, int more, int pride) {
            super(kind, more, pride);
        }

        @Override
        int strokes(int said, Wrong wrong) {
            return Integer.bitCount(wrong.doers) >= 2 ? 0 : super.strokes(said, wrong);
        }

        @Override
        int asks(int said) {
            return 3 * super.asks(said) + more;
        }
    }

    private static final class Elder extends Person {
        Elder(int kind, int more, int pride) {
            super(kind, more, pride);
        }

        @Override
        int strokes(int said, Wrong wrong) {
            return wrong.weight > more ? 1 : 0;
        }

        @Override
        int doubts(int said, int off) {
            return super.doubts(said, off) + off;
        }
    }

    private static final List<Class<? extends Person>> CLASSES = List.of(
        Person.class, Child.class, Banker.class, Saint.class, Thief.class, Elder.class);

    private static Person personOf(int kind, int more, int pride) {
        switch (kind) {
            case 0: return new Person(kind, more, pride);
            case 1: return new Child(kind, more, pride);
            case 2: return new Banker(kind, more, pride);
            case 3: return new Saint(kind, more, pride);
            case 4: return new Thief(kind, more, pride);
            default: return new Elder(kind, more, pride);
        }
    }

    private static Person likeBut(Person one, int kind, int more, int pride) {
        Person other = personOf(kind, more, pride);
        other.name = one.name;
        return other;
    }

    /** All that an image keeps. */
    private static final class World {
        final List<Person> people = new ArrayList<>();
        final List<Wrong> wrongs = new ArrayList<>();
        int day = 0;
        int law = 0;

        World copied() {
            World other = new World();
            for (Person one : people) {
                other.people.add(likeBut(one, one.kind, one.more, one.pride));
            }
            for (Wrong wrong : wrongs) {
                other.wrongs.add(new Wrong(wrong.doers, wrong.weight, wrong.seers));
            }
            other.day = day;
            other.law = law;
            return other;
        }
    }

    private World world = new World();
    private World kept = null;
    private final List<Text> texts = new ArrayList<>();
    private final StringBuilder tape = new StringBuilder();
    private final Object[] sheets = new Object[4];

    Model() {
        texts.add(new Text(facts -> 1, facts -> 10, Facts::weight));
    }

    // ---- what is asked of a world

    private int says(World w, int part, int p, Wrong wrong) {
        Person one = w.people.get(p);
        return texts.get(w.law).says(part, new Facts(wrong.weight, Integer.bitCount(wrong.doers),
            Integer.bitCount(wrong.seers), w.day, one.pride, one.more));
    }

    private int strokes(World w, int p, Wrong wrong) {
        return w.people.get(p).strokes(says(w, 0, p, wrong), wrong);
    }

    private int beatsBySet(World w, int p, int set) {
        int beats = 0;
        for (int k = 0; k < w.wrongs.size(); k++) {
            if ((set & 1 << k) != 0) {
                beats += strokes(w, p, w.wrongs.get(k));
            }
        }
        return beats;
    }

    private int own(World w, int p) {
        int set = 0;
        for (int k = 0; k < w.wrongs.size(); k++) {
            set |= w.wrongs.get(k).by(p) ? 1 << k : 0;
        }
        return set;
    }

    private int beats(World w, int p) {
        return beatsBySet(w, p, own(w, p));
    }

    private int beatsOfAll(World w) {
        int together = 0;
        for (int p = 0; p < w.people.size(); p++) {
            together += beats(w, p);
        }
        return together;
    }

    private static int saw(World w, int p, int q) {
        return (int) w.wrongs.stream().filter(wrong -> wrong.by(p) && wrong.seenBy(q)).count();
    }

    private int catchers(World w, int p, int beats) {
        int bits = 0;
        for (int q = 0; q < w.people.size(); q++) {
            bits |= q != p && saw(w, p, q) - beats > 0 ? 1 << q : 0;
        }
        return bits;
    }

    private int loss(World w, int p, int beats) {
        int loss = 0;
        for (int q = 0; q < w.people.size(); q++) {
            if ((catchers(w, p, beats) & 1 << q) != 0) {
                Wrong last = null;
                for (Wrong wrong : w.wrongs) {
                    last = wrong.by(p) && wrong.seenBy(q) ? wrong : last;
                }
                loss += w.people.get(q).doubts(says(w, 1, q, last), saw(w, p, q) - beats);
            }
        }
        return loss;
    }

    private int thoughtOf(World w, int p, int beats) {
        int thought = w.people.get(p).name - beats - loss(w, p, beats);
        return thought < 0 ? 0 : Math.min(thought, 999);
    }

    private int thoughtOfAll(World w) {
        int together = 0;
        for (int p = 0; p < w.people.size(); p++) {
            together += thoughtOf(w, p, beats(w, p));
        }
        return together;
    }

    private static boolean among(int v, int size) {
        return 0 <= v && v < size;
    }

    private boolean somebody(int p) {
        return among(p, world.people.size());
    }

    private boolean someWrong(int k) {
        return among(k, world.wrongs.size());
    }

    private static long terms(long above, long below, int part) {
        if (below == 0) {
            return NO;
        }
        for (long d = below; d > 1; d--) {
            if (above % d == 0 && below % d == 0) {
                above /= d;
                below /= d;
            }
        }
        return part == 0 ? above : below;
    }

    // ---- wrongs, the law, people

    public int count(int what) {
        int[] counts = {world.people.size(), world.wrongs.size(), world.day, texts.size(), world.law, tape.length()};
        return among(what, counts.length) ? counts[what] : BAD;
    }

    public int wrong(int some, int heavy, int saw) {
        int all = 1 << world.people.size();
        if (some <= 0 || some >= all || heavy < 1 || heavy > 9 || saw < 0 || saw >= all || (some & saw) != 0) {
            return BAD;
        }
        if (world.wrongs.size() == 10) {
            return FULL;
        }
        world.wrongs.add(new Wrong(some, heavy, saw));
        return world.wrongs.size() - 1;
    }

    public int deed(int k, int what) {
        if (!someWrong(k)) {
            return -5;
        }
        Wrong wrong = world.wrongs.get(k);
        int[] answers = {wrong.doers, wrong.weight, wrong.seers};
        return among(what, 3) ? answers[what] : -7;
    }

    public int amend(int k) {
        return someWrong(k) ? world.wrongs.remove(k).weight : -5;
    }

    public int feed(int n, int a, int b, int c, int d, int e) {
        int[] bytes = {a, b, c, d, e};
        if (n < 1 || n > 5 || !Arrays.stream(bytes).allMatch(v -> among(v, 256))) {
            return BAD;
        }
        if (tape.length() + n > 160) {
            return FULL;
        }
        for (int i = 0; i < n; i++) {
            tape.append((char) bytes[i]);
        }
        return tape.length();
    }

    public int text() {
        if (texts.size() == 6) {
            return FULL;
        }
        String read = tape.toString();
        tape.setLength(0);
        try {
            texts.add(new TextReader(read).text());
            return texts.size() - 1;
        } catch (Fault fault) {
            return -100 - fault.place;
        }
    }

    public int force(int t) {
        if (!among(t, texts.size())) {
            return BAD;
        }
        int before = world.law;
        world.law = t;
        return before;
    }

    public int asks(int part, int p, int k) {
        return among(part, 3) && somebody(p) && someWrong(k) ? says(world, part, p, world.wrongs.get(k)) : BAD;
    }

    public int person(int kindMore, int proud) {
        if (!among(kindMore, 60) || !among(proud, 100)) {
            return BAD;
        }
        if (world.people.size() == 6) {
            return FULL;
        }
        world.people.add(personOf(kindMore / 10, kindMore % 10, proud));
        return world.people.size() - 1;
    }

    public int put(int p, int what, int v) {
        if (!somebody(p)) {
            return -5;
        }
        Person one = world.people.get(p);
        if (what == 0 && among(v, 100)) {
            int before = one.pride;
            one.pride = v;
            return before;
        }
        if (what == 1 && among(v, 1000)) {
            int before = one.name;
            one.name = v;
            return before;
        }
        return -7;
    }

    public int told(int p, int what) {
        if (!somebody(p)) {
            return -5;
        }
        Person one = world.people.get(p);
        int did = (int) world.wrongs.stream().filter(wrong -> wrong.by(p)).count();
        int saw = (int) world.wrongs.stream().filter(wrong -> wrong.seenBy(p)).count();
        int[] answers = {one.pride, one.name, one.kind, one.more, did, saw};
        return among(what, 6) ? answers[what] : -7;
    }

    // ---- dusk

    public int dusk(int p, int what) {
        if (!somebody(p)) {
            return -5;
        }
        int beats = beats(world, p);
        int[] answers = {beats, catchers(world, p, beats), loss(world, p, beats), thoughtOf(world, p, beats)};
        return among(what, 4) ? answers[what] : -7;
    }

    public int town(int what) {
        int most = -1;
        int none = 0;
        int catching = 0;
        for (int p = 0; p < world.people.size(); p++) {
            int beats = beats(world, p);
            if (beats > 0 && (most == -1 || beats > beats(world, most))) {
                most = p;
            }
            none |= beats == 0 ? 1 << p : 0;
            catching |= catchers(world, p, beats);
        }
        int[] answers = {beatsOfAll(world), most, none, catching};
        return among(what, 4) ? answers[what] : BAD;
    }

    public int night() {
        if (world.day == 999) {
            return STATE;
        }
        int beats = beatsOfAll(world);
        int[] thoughts = new int[world.people.size()];
        for (int p = 0; p < thoughts.length; p++) {
            thoughts[p] = thoughtOf(world, p, beats(world, p));
        }
        for (int p = 0; p < thoughts.length; p++) {
            world.people.get(p).name = thoughts[p];
        }
        world.wrongs.clear();
        world.day++;
        return beats;
    }

    // ---- what is best

    public int best(int p, int what) {
        if (!somebody(p)) {
            return -5;
        }
        if (what != 0 && what != 1) {
            return -7;
        }
        int own = own(world, p);
        int best = own;
        for (int set = own; set >= 0; set--) {
            boolean inOwn = (set & own) == set;
            if (inOwn && thoughtOf(world, p, beatsBySet(world, p, set)) >= thoughtOf(world, p, beatsBySet(world, p, best))) {
                best = set;
            }
        }
        return what == 0 ? best : thoughtOf(world, p, beatsBySet(world, p, best));
    }

    public int few(int p) {
        if (!somebody(p)) {
            return -5;
        }
        int beats = 0;
        while (catchers(world, p, beats) != 0) {
            beats++;
        }
        return beats;
    }

    public int hire(int p, int what) {
        if (!somebody(p)) {
            return -5;
        }
        if (what != 0 && what != 1) {
            return -7;
        }
        int who = -1;
        int least = -1;
        for (int q = world.people.size() - 1; q >= 0; q--) {
            int asked = 0;
            for (Wrong wrong : world.wrongs) {
                asked += wrong.by(p) ? world.people.get(q).asks(says(world, 2, q, wrong)) : 0;
            }
            if (q != p && (who == -1 || asked <= least)) {
                who = q;
                least = asked;
            }
        }
        return what == 0 ? who : least;
    }

    public int away(int what) {
        if (what != 0 && what != 1) {
            return BAD;
        }
        int who = -1;
        int most = thoughtOfAll(world);
        for (int q = 0; q < world.people.size(); q++) {
            World other = world.copied();
            for (Wrong wrong : other.wrongs) {
                wrong.seers &= ~(1 << q);
            }
            if (thoughtOfAll(other) > most) {
                most = thoughtOfAll(other);
                who = q;
            }
        }
        return what == 0 ? who : most;
    }

    public int undone(int what) {
        if (what != 0 && what != 1) {
            return BAD;
        }
        int which = -1;
        int most = thoughtOfAll(world);
        for (int k = 0; k < world.wrongs.size(); k++) {
            World other = world.copied();
            other.wrongs.remove(k);
            if (thoughtOfAll(other) > most) {
                most = thoughtOfAll(other);
                which = k;
            }
        }
        return what == 0 ? which : most;
    }

    public int pair(int what) {
        if (what != 0 && what != 1) {
            return BAD;
        }
        int pair = -1;
        int most = -1;
        for (int p = 0; p < world.people.size(); p++) {
            for (int q = p + 1; q < world.people.size(); q++) {
                int saw = saw(world, p, q) + saw(world, q, p);
                if (saw > most) {
                    most = saw;
                    pair = 10 * p + q;
                }
            }
        }
        return what == 0 ? pair : most;
    }

    // ---- what strokes may have been

    private List<Integer> setsByBeats(int p, int beats) {
        List<Integer> sets = new ArrayList<>();
        for (int set = 0; set < 1 << world.wrongs.size(); set++) {
            if (beatsBySet(world, p, set) == beats) {
                sets.add(set);
            }
        }
        return sets;
    }

    public int guess(int p, int beats, int what) {
        if (!somebody(p)) {
            return -5;
        }
        if (!among(beats, 1000) || what != 0 && what != 1) {
            return -7;
        }
        List<Integer> sets = setsByBeats(p, beats);
        return what == 0 ? sets.size() : sets.isEmpty() ? -1 : sets.get(0);
    }

    public long likely(int p, int beats, int k, int part) {
        if (!somebody(p) || !someWrong(k) || part != 0 && part != 1) {
            return NO;
        }
        List<Integer> sets = setsByBeats(p, beats);
        return terms(sets.stream().filter(set -> (set & 1 << k) != 0).count(), sets.size(), part);
    }

    public long share(int p, int part) {
        return somebody(p) && (part == 0 || part == 1) ? terms(beats(world, p), beatsOfAll(world), part) : NO;
    }

    // ---- told evenings

    private int refused(int s) {
        if (!among(s, 4)) {
            return BAD;
        }
        if (sheets[s] == null) {
            return -11;
        }
        return Array.getLength(sheets[s]) > world.people.size() ? BAD : 0;
    }

    private int judged(World w, int s) {
        for (int p = 0; p < Array.getLength(sheets[s]); p++) {
            if (beats(w, p) != Array.getInt(sheets[s], p)) {
                return p;
            }
        }
        return -1;
    }

    public int judge(int s) {
        return refused(s) != 0 ? refused(s) : judged(world, s);
    }

    public int kinds(int s, int p, int sort) {
        if (refused(s) != 0) {
            return refused(s);
        }
        if (!somebody(p)) {
            return -5;
        }
        if (sort != 0 && sort != 1) {
            return -7;
        }
        int bits = 0;
        for (int v = 0; v < (sort == 0 ? 6 : 10); v++) {
            World other = world.copied();
            Person one = world.people.get(p);
            other.people.set(p, likeBut(one, sort == 0 ? v : one.kind, sort == 1 ? v : one.more, one.pride));
            bits |= judged(other, s) == -1 ? 1 << v : 0;
        }
        return bits;
    }

    public int prides(int s, int p, int what) {
        if (refused(s) != 0) {
            return refused(s);
        }
        if (!somebody(p)) {
            return -5;
        }
        if (what != 0 && what != 1) {
            return -7;
        }
        List<Integer> prides = new ArrayList<>();
        for (int pride = 0; pride <= 99; pride++) {
            World other = world.copied();
            other.people.get(p).pride = pride;
            if (judged(other, s) == -1) {
                prides.add(pride);
            }
        }
        return what == 0 ? prides.size() : prides.isEmpty() ? -1 : prides.get(0);
    }

    public int whose(int s, int k, int what) {
        if (refused(s) != 0) {
            return refused(s);
        }
        if (!someWrong(k)) {
            return -6;
        }
        if (what != 0 && what != 1) {
            return -7;
        }
        List<Integer> sets = new ArrayList<>();
        for (int set = 1; set < 1 << world.people.size(); set++) {
            World other = world.copied();
            other.wrongs.get(k).doers = set;
            if (judged(other, s) == -1) {
                sets.add(set);
            }
        }
        return what == 0 ? sets.size() : sets.isEmpty() ? -1 : sets.get(0);
    }

    public int laws(int s) {
        if (refused(s) != 0) {
            return refused(s);
        }
        int bits = 0;
        for (int t = 0; t < texts.size(); t++) {
            World other = world.copied();
            other.law = t;
            bits |= judged(other, s) == -1 ? 1 << t : 0;
        }
        return bits;
    }

    public int film(int s) {
        if (!among(s, 4)) {
            return BAD;
        }
        short[] row = new short[world.people.size()];
        for (int p = 0; p < row.length; p++) {
            row[p] = (short) beats(world, p);
        }
        sheets[s] = row;
        return row.length;
    }

    // ---- wrongs by lots

    private World drawnBy(int seed) {
        World other = world.copied();
        other.wrongs.clear();
        long lot = seed + 1L;
        for (int i = 0; i < 6 && !other.people.isEmpty(); i++) {
            long[] lots = new long[3];
            for (int j = 0; j < 3; j++) {
                lot = lot * 48271 % 2147483647;
                lots[j] = lot;
            }
            int doer = 1 << lots[0] % other.people.size();
            int seer = 1 << lots[1] % other.people.size();
            other.wrongs.add(new Wrong(doer, 1 + (int) (lots[2] % 9), seer == doer ? 0 : seer));
        }
        return other;
    }

    public int drawn(int seed, int what) {
        if (!among(seed, 100000) || what != 0 && what != 1) {
            return BAD;
        }
        World other = drawnBy(seed);
        int caught = 0;
        for (int p = 0; p < other.people.size(); p++) {
            caught |= catchers(other, p, beats(other, p)) != 0 ? 1 << p : 0;
        }
        return what == 0 ? caught : beatsOfAll(other);
    }

    public long odds(int seed, int seeds, int p, int part) {
        if (!among(seed, 100000) || seeds < 1 || seeds > 40 || !somebody(p) || part != 0 && part != 1) {
            return NO;
        }
        int times = 0;
        for (int i = seed; i < seed + seeds; i++) {
            World other = drawnBy(i);
            times += catchers(other, p, beats(other, p)) != 0 ? 1 : 0;
        }
        return terms(times, seeds, part);
    }

    public int image() {
        kept = world.copied();
        return world.people.size();
    }

    public int back() {
        if (kept == null) {
            return STATE;
        }
        world = kept.copied();
        return world.people.size();
    }

    // ---- the host

    public int sheet(int s, int sort, int n) {
        if (!among(s, 4) || sort < -1 || sort > 2 || sort != -1 && n > 40) {
            return BAD;
        }
        if (sort == -1) {
            sheets[s] = null;
            return 1;
        }
        if (n < 0) {
            return -14;
        }
        sheets[s] = sort == 0 ? new byte[n] : sort == 1 ? new short[n] : new int[n];
        return 1;
    }

    public int cell(int s, int i, int v) {
        if (!among(s, 4)) {
            return BAD;
        }
        if (sheets[s] == null) {
            return -11;
        }
        if (!among(i, Array.getLength(sheets[s]))) {
            return -12;
        }
        if (sheets[s] instanceof byte[] bytes) {
            bytes[i] = (byte) v;
        } else if (sheets[s] instanceof short[] shorts) {
            shorts[i] = (short) v;
        } else {
            Array.setInt(sheets[s], i, v);
        }
        return 1;
    }

    public int copy(int s, int i, int other, int j, int n) {
        if (!among(s, 4) || !among(other, 4)) {
            return BAD;
        }
        if (sheets[s] == null || sheets[other] == null) {
            return -11;
        }
        try {
            System.arraycopy(sheets[s], i, sheets[other], j, n);
            return n;
        } catch (ArrayStoreException unlike) {
            return -13;
        } catch (IndexOutOfBoundsException outside) {
            return -12;
        }
    }

    public int peopleBy(int s, int sort, int from, int n) {
        if (!among(s, 4) || !among(sort, 3) || !among(n, 7)) {
            return BAD;
        }
        if (sheets[s] == null) {
            return -11;
        }
        List<Class<?>> sorts = List.of(byte[].class, short[].class, int[].class);
        if (!sorts.get(sort).isInstance(sheets[s])) {
            return -13;
        }
        int came = 0;
        try {
            for (int i = 0; i < n; i++) {
                int kindMore = Array.getInt(sheets[s], from + 2 * i);
                came += person(kindMore, Array.getInt(sheets[s], from + 2 * i + 1)) >= 0 ? 1 : 0;
            }
            return came;
        } catch (ArrayIndexOutOfBoundsException outside) {
            return -12;
        }
    }

    public int taken(int i, int kind) {
        if (!among(kind, 7)) {
            return BAD;
        }
        if (!among(i, 16)) {
            return -12;
        }
        if (i < 6 ? !somebody(i) : !someWrong(i - 6)) {
            return -11;
        }
        if (i >= 6) {
            return kind == 6 ? world.wrongs.get(i - 6).weight : -13;
        }
        return kind < 6 && CLASSES.get(kind).isInstance(world.people.get(i)) ? i : -13;
    }

    // ---- how a text is read

    private static final class Fault extends RuntimeException {
        private static final long serialVersionUID = 1L;
        final int place;

        Fault(int place) {
            this.place = place;
        }
    }

    /** Keeps what is open or waits for its second value on a stack, by how closely it binds. */
    private static final class TextReader {
        private static final Pattern TOKEN = Pattern.compile("[a-z]+|[0-9]+|[^ \n]", Pattern.DOTALL);
        private static final int PAREN = 0, OR = 1, AND = 2, NOT = 3, COMPARED = 4, ADDED = 5, TIMES = 6, MINUS = 7;

        private record Waiting(String sign, int binds) {
            boolean isOpen() {
                return binds == PAREN || binds == NOT || binds == MINUS;
            }
        }

        private final List<String> tokens = new ArrayList<>();
        private final List<Integer> places = new ArrayList<>();
        private int next = 0;
        private final Deque<Waiting> waiting = new ArrayDeque<>();
        private final Deque<ToIntFunction<Facts>> values = new ArrayDeque<>();

        TextReader(String text) {
            Matcher matcher = TOKEN.matcher(text);
            while (matcher.find()) {
                tokens.add(matcher.group());
                places.add(matcher.start());
            }
            tokens.add("");
            places.add(text.length());
        }

        Text text() {
            ToIntFunction<Facts> strokes = part("strokes");
            ToIntFunction<Facts> doubts = part("doubts");
            ToIntFunction<Facts> pays = part("pays");
            key("");
            return new Text(strokes, doubts, pays);
        }

        private void key(String key) {
            if (!tokens.get(next).equals(key)) {
                throw new Fault(places.get(next));
            }
            next++;
        }

        private ToIntFunction<Facts> part(String key) {
            key(key);
            boolean valueNext = true;
            while (valueNext || !tokens.get(next).equals(";")) {
                valueNext = valueNext ? beginsValue(tokens.get(next)) : goesOn(tokens.get(next));
                next++;
            }
            settle(OR);
            if (!waiting.isEmpty()) {
                throw new Fault(places.get(next));
            }
            next++;
            return values.pop();
        }

        /** Takes a token where a value must begin: whether one must still begin behind it. */
        private boolean beginsValue(String token) {
            Waiting last = waiting.peek();
            long open = waiting.stream().filter(Waiting::isOpen).count();
            if (token.matches("[0-9]{1,4}")) {
                int number = Integer.parseInt(token);
                values.push(facts -> number);
                return false;
            }
            ToIntFunction<Facts> name = name(token);
            if (name != null) {
                values.push(name);
                return false;
            }
            boolean notMayStand = last == null || last.binds <= NOT;
            if (open < 5 && (token.equals("(") || token.equals("-") || token.equals("not") && notMayStand)) {
                waiting.push(new Waiting(token, token.equals("(") ? PAREN : token.equals("-") ? MINUS : NOT));
                return true;
            }
            throw new Fault(places.get(next));
        }

        /** Takes a token behind a value: whether another value must begin behind it. */
        private boolean goesOn(String token) {
            int binds = bindsBetween(token);
            if (token.equals(")")) {
                settle(OR);
                if (waiting.isEmpty()) {
                    throw new Fault(places.get(next));
                }
                waiting.pop();
                return false;
            }
            if (binds < 0) {
                throw new Fault(places.get(next));
            }
            settle(binds == COMPARED ? ADDED : binds);
            if (binds == COMPARED && !waiting.isEmpty() && waiting.peek().binds == COMPARED) {
                throw new Fault(places.get(next));
            }
            waiting.push(new Waiting(token, binds));
            return true;
        }

        private static int bindsBetween(String token) {
            switch (token) {
                case "or": return OR;
                case "and": return AND;
                case "<":
                case "=": return COMPARED;
                case "+":
                case "-": return ADDED;
                case "*": return TIMES;
                default: return -1;
            }
        }

        private static ToIntFunction<Facts> name(String token) {
            switch (token) {
                case "weight": return Facts::weight;
                case "shared": return Facts::shared;
                case "seen": return Facts::seen;
                case "day": return Facts::day;
                case "pride": return Facts::pride;
                case "more": return Facts::more;
                default: return null;
            }
        }

        /** All that binds so closely or closer is done with the values that it has. */
        private void settle(int binds) {
            while (!waiting.isEmpty() && waiting.peek().binds >= binds) {
                Waiting done = waiting.pop();
                ToIntFunction<Facts> b = values.pop();
                if (done.binds == NOT) {
                    values.push(facts -> b.applyAsInt(facts) == 0 ? 1 : 0);
                } else if (done.binds == MINUS) {
                    values.push(facts -> -b.applyAsInt(facts));
                } else {
                    ToIntFunction<Facts> a = values.pop();
                    values.push(facts -> between(done.sign, a.applyAsInt(facts), b.applyAsInt(facts)));
                }
            }
        }

        private static int between(String sign, int a, int b) {
            switch (sign) {
                case "or": return a != 0 || b != 0 ? 1 : 0;
                case "and": return a != 0 && b != 0 ? 1 : 0;
                case "<": return a < b ? 1 : 0;
                case "=": return a == b ? 1 : 0;
                case "+": return a + b;
                case "-": return a - b;
                default: return a * b;
            }
        }
    }
}
