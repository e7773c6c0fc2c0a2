/** Promises 31 to 34: drawn, odds, image, back. */
final class LotsTest {
    private static final long NO = DrumOfGuilt.NO;

    public static void main(String[] args) {
        all();
        Checks.finish("LotsTest");
    }

    static void all() {
        drawing();
        drawnByHand();
        drawnFromAnEvening();
        oddsPastTheLastSeed();
        chances();
        images();
        noImage();
        wrongsSinceTheImage();
        imageOfAll();
        imageOfAnotherLaw();
        nothingElseIsKept();
    }

    private static void drawing() {
        DrumOfGuilt x = new DrumOfGuilt();
        Checks.due("31 drawn: no people: whom", x.drawn(0, 0), 0);
        Checks.due("31 drawn: no people: beats", x.drawn(99999, 1), 0);
        x = Checks.people(0);
        Checks.due("31 drawn: one strikes for six", x.drawn(0, 1), 6);
        Checks.due("31 drawn: nobody saw", x.drawn(0, 0), 0);
        x.wrong(1, 9, 0);
        Checks.due("31 drawn: these are none", x.drawn(0, 1), 6);
        Checks.due("31 drawn: what is asked changes nothing", x.count(1), 1);
        Checks.due("31 drawn: the last seed", x.drawn(99999, 1), 6);
        Checks.due("31 drawn: seed above", x.drawn(100000, 1), -2);
        Checks.due("31 drawn: seed below", x.drawn(-1, 1), -2);
        Checks.due("31 drawn: what", x.drawn(0, 2), -2);
        Checks.due("31 drawn: what below", x.drawn(0, -1), -2);
    }

    /** Draws the same wrongs here, makes them truly, and asks what dusk() tells of them. */
    private static void drawnByHand() {
        for (int seed = 0; seed < 100000; seed += 4321) {
            DrumOfGuilt x = Checks.people(0, 13, 40, 52, 35);
            Checks.law(x, "(seen < shared) + (weight < 3)", "5", "1");
            int drawnBeats = x.drawn(seed, 1);
            int drawnCaught = x.drawn(seed, 0);
            makeTruly(x, seed);
            int caught = 0;
            for (int p = 0; p < 5; p++) {
                caught |= x.dusk(p, 1) != 0 ? 1 << p : 0;
            }
            Checks.due("31 drawn: six wrongs of seed " + seed, x.count(1), 6);
            Checks.due("31 drawn: beats of seed " + seed, drawnBeats, x.town(0));
            Checks.due("31 drawn: whom of seed " + seed, drawnCaught, caught);
        }
    }

    /** The wrongs of a seed become those of an object, which has none yet. */
    private static void makeTruly(DrumOfGuilt x, int seed) {
        int people = x.count(0);
        long lot = seed + 1;
        for (int i = 0; i < 6; i++) {
            int[] lots = new int[3];
            for (int j = 0; j < 3; j++) {
                lot = lot * 48271 % 2147483647;
                lots[j] = (int) lot;
            }
            int doer = 1 << lots[0] % people;
            x.wrong(doer, 1 + lots[2] % 9, 1 << lots[1] % people & ~doer);
        }
    }

    /** In what is drawn the wrongs there are play no part; day, people and the law stay as they are. */
    private static void drawnFromAnEvening() {
        for (int seed : new int[] {0, 1, 2, 99998, 99999}) {
            DrumOfGuilt x = Checks.people(0, 13, 40, 52, 35, 3);
            Checks.law(x, "(weight < 4) * (1 + day)", "5", "1");
            x.night();
            DrumOfGuilt twin = Checks.people(0, 13, 40, 52, 35, 3);
            Checks.law(twin, "(weight < 4) * (1 + day)", "5", "1");
            twin.night();
            for (int k = 0; k < 10; k++) {
                x.wrong(1 << k % 6, 9, 63 & ~(1 << k % 6));
            }
            makeTruly(twin, seed);
            int caught = 0;
            for (int p = 0; p < 6; p++) {
                caught |= twin.dusk(p, 1) != 0 ? 1 << p : 0;
            }
            Checks.due("31 drawn: none but six: beats of seed " + seed, x.drawn(seed, 1), twin.town(0));
            Checks.due("31 drawn: none but six: whom of seed " + seed, x.drawn(seed, 0), caught);
            Checks.due("31 drawn: there are ten still", x.count(1), 10);
        }
    }

    /** From 99999 on, 40 seeds go up to 100038. */
    private static void oddsPastTheLastSeed() {
        for (int p = 0; p < 3; p++) {
            int times = 0;
            for (int i = 0; i < 40; i++) {
                DrumOfGuilt x = Checks.people(20, 34, 0);
                Checks.law(x, "0", "1", "1");
                makeTruly(x, 99999 + i);
                times += x.dusk(p, 1) != 0 ? 1 : 0;
            }
            int divisor = 1;
            for (int d = 2; d <= 40; d++) {
                divisor = times % d == 0 && 40 % d == 0 ? d : divisor;
            }
            DrumOfGuilt x = Checks.people(20, 34, 0);
            Checks.law(x, "0", "1", "1");
            odds(x, 99999, 40, p, times / divisor, 40 / divisor);
        }
    }

    private static void odds(DrumOfGuilt x, int seed, int seeds, int p, long above, long below) {
        String call = "32 odds: " + seed + " " + seeds + " " + p;
        Checks.due(call + " above", x.odds(seed, seeds, p, 0), above);
        Checks.due(call + " below", x.odds(seed, seeds, p, 1), below);
    }

    private static void chances() {
        DrumOfGuilt fresh = Checks.people(39, 39, 39);
        Checks.law(fresh, "0 - 9", "1", "1");
        Checks.due("32 odds: asked first of all, saints strike for all", fresh.odds(0, 40, 0, 0), 0);
        DrumOfGuilt elders = Checks.people(59, 59, 59);
        Checks.due("32 odds: asked first of all, elders strike for none", elders.odds(0, 40, 0, 0) > 0 ? 1 : 0, 1);
        DrumOfGuilt x = Checks.people(0, 0, 0);
        odds(x, 0, 40, 0, 0, 1);
        Checks.law(x, "0", "1", "1");
        for (int p = 0; p < 3; p++) {
            int times = 0;
            for (int seed = 700; seed < 732; seed++) {
                times += x.drawn(seed, 0) >> p & 1;
            }
            int divisor = Integer.lowestOneBit(times | 32);
            odds(x, 700, 32, p, times / divisor, 32 / divisor);
            odds(x, 700, 1, p, x.drawn(700, 0) >> p & 1, 1);
        }
        // From 99999 on a few of the seeds pass it: that is fine.
        Checks.due("32 odds: past the last seed", x.odds(99999, 40, 0, 1) > 0 ? 1 : 0, 1);
        odds(x, -1, 1, 0, NO, NO);
        odds(x, 100000, 1, 0, NO, NO);
        odds(x, 0, 0, 0, NO, NO);
        odds(x, 0, 41, 0, NO, NO);
        odds(x, 0, 1, 3, NO, NO);
        odds(x, 0, 1, -1, NO, NO);
        Checks.due("32 odds: part", x.odds(0, 1, 0, 2), NO);
        Checks.due("32 odds: part below", x.odds(0, 1, 0, -1), NO);
        odds(new DrumOfGuilt(), 0, 1, 0, NO, NO);
        x.wrong(1, 1, 2);
        x.drawn(5, 0);
        x.odds(5, 5, 0, 0);
        Checks.due("32 odds: what is asked changes nothing", x.count(1), 1);
    }

    private static void images() {
        DrumOfGuilt x = new DrumOfGuilt();
        Checks.due("34 back: none kept", x.back(), -3);
        x = Checks.people(0, 12);
        x.wrong(1, 3, 2);
        x.wrong(2, 4, 1);
        x.put(0, 0, 20);
        x.put(0, 1, 600);
        x.night();
        x.wrong(1, 5, 2);
        Checks.read(x, "strokes 2;doubts 1;pays 1;");
        Checks.due("33 image: how many", x.image(), 2);
        int named = x.told(0, 1);
        x.person(33, 3);
        x.wrong(4, 9, 3);
        x.amend(0);
        x.put(0, 0, 77);
        x.put(0, 1, 88);
        x.force(1);
        x.night();
        Checks.due("34 back: how many", x.back(), 2);
        Checks.due("34 back: people that came since are none", x.count(0), 2);
        Checks.due("34 back: nobody", x.told(2, 0), -5);
        Checks.due("34 back: wrongs", x.count(1), 1);
        Checks.due("34 back: doers", x.deed(0, 0), 1);
        Checks.due("34 back: weight", x.deed(0, 1), 5);
        Checks.due("34 back: seen by", x.deed(0, 2), 2);
        Checks.due("34 back: day", x.count(2), 1);
        Checks.due("34 back: the law", x.count(4), 0);
        Checks.due("34 back: that law says", x.asks(1, 0, 0), 10);
        Checks.due("34 back: pride", x.told(0, 0), 20);
        Checks.due("34 back: name", x.told(0, 1), named);
        x.person(21, 9);
        Checks.due("34 back: another comes in that place", x.told(2, 2), 2);
        Checks.due("34 back: again", x.back(), 2);
        Checks.due("34 back: none again", x.count(0), 2);
        x.amend(0);
        x.person(14, 4);
        Checks.due("33 image: another", x.image(), 3);
        x.wrong(1, 1, 0);
        Checks.due("33 image: another takes its place: how many", x.back(), 3);
        Checks.due("33 image: another takes its place: no wrongs", x.count(1), 0);
        Checks.due("33 image: another takes its place: of that kind", x.told(2, 2), 1);
        x = new DrumOfGuilt();
        Checks.due("33 image: nobody", x.image(), 0);
        x.person(0, 0);
        Checks.due("34 back: to nobody", x.back(), 0);
        Checks.due("34 back: nobody", x.told(0, 0), -5);
    }

    private static void noImage() {
        DrumOfGuilt x = Checks.people(0, 7);
        x.wrong(1, 5, 2);
        x.put(1, 1, 7);
        Checks.due("34 back: no image", x.back(), -3);
        Checks.due("34 back: no image, people stay", x.count(0), 2);
        Checks.due("34 back: no image, wrongs stay", x.deed(0, 1), 5);
        Checks.due("34 back: no image, names stay", x.told(1, 1), 7);
        Checks.due("34 back: no image still", x.back(), -3);
    }

    private static void wrongsSinceTheImage() {
        DrumOfGuilt x = Checks.people(0, 7);
        x.image();
        x.wrong(1, 5, 2);
        x.wrong(2, 6, 1);
        x.back();
        Checks.due("34 back: wrongs that came since are none", x.count(1), 0);
        x.wrong(1, 5, 2);
        x.wrong(2, 6, 1);
        x.image();
        x.amend(1);
        x.back();
        Checks.due("34 back: wrongs that are none since are there", x.count(1), 2);
        Checks.due("34 back: as they were", x.deed(1, 1), 6);
        x.amend(0);
        x.wrong(3, 9, 0);
        x.back();
        Checks.due("34 back: in their order", x.deed(0, 1), 5);
        x.night();
        x.back();
        Checks.due("34 back: also after a night", x.count(1), 2);
        Checks.due("34 back: the day of the image", x.count(2), 0);
        Checks.due("34 back: names ahead of the night", x.told(0, 1), 500);
    }

    /** Six people and ten wrongs are kept, all is changed, and all is as it was: twice. */
    private static void imageOfAll() {
        DrumOfGuilt x = new DrumOfGuilt();
        for (int p = 0; p < 6; p++) {
            x.person(10 * p + p, 90 + p);
            x.put(p, 1, 100 * p + 7);
        }
        for (int k = 0; k < 10; k++) {
            x.wrong(1 << k % 6, 1 + k % 9, 32 >> k % 6 & ~(1 << k % 6));
        }
        Checks.due("33 image: six", x.image(), 6);
        Checks.law(x, "7", "8", "9");
        for (int round = 0; round < 2; round++) {
            for (int p = 0; p < 6; p++) {
                x.put(p, 0, p);
                x.put(p, 1, 500);
            }
            x.force(1);
            x.night();
            x.night();
            x.wrong(63, 1, 0);
            Checks.due("34 back: six", x.back(), 6);
            Checks.due("34 back: ten wrongs", x.count(1), 10);
            Checks.due("34 back: day 0", x.count(2), 0);
            Checks.due("34 back: the first law", x.count(4), 0);
            for (int p = 0; p < 6; p++) {
                Checks.due("34 back: pride of " + p, x.told(p, 0), 90 + p);
                Checks.due("34 back: name of " + p, x.told(p, 1), 100 * p + 7);
                Checks.due("34 back: kind of " + p, x.told(p, 2), p);
                Checks.due("34 back: more of " + p, x.told(p, 3), p);
            }
            for (int k = 0; k < 10; k++) {
                Checks.due("34 back: doers of " + k, x.deed(k, 0), 1 << k % 6);
                Checks.due("34 back: weight of " + k, x.deed(k, 1), 1 + k % 9);
                Checks.due("34 back: by whom seen, " + k, x.deed(k, 2), 32 >> k % 6 & ~(1 << k % 6));
            }
            Checks.due("34 back: what the law says", x.asks(1, 5, 9), 10);
        }
    }

    /** The law of the image is not the first one: it is the law again, by its number and by what it says. */
    private static void imageOfAnotherLaw() {
        DrumOfGuilt x = Checks.people(0, 0);
        x.wrong(1, 4, 0);
        Checks.read(x, "strokes 2;doubts 3;pays 4;");
        Checks.law(x, "5", "6", "7");
        x.image();
        x.force(1);
        x.back();
        Checks.due("34 back: the law is the second again", x.count(4), 2);
        Checks.due("34 back: it says", x.asks(0, 0, 0), 5);
        Checks.due("34 back: by it one strikes", x.dusk(0, 0), 5);
        Checks.due("34 back: it was the law", x.force(0), 2);
        x.back();
        Checks.due("34 back: again the second", x.count(4), 2);
    }

    private static void nothingElseIsKept() {
        DrumOfGuilt x = Checks.people(0);
        Checks.tell(x, 0, 0);
        x.image();
        Checks.read(x, "strokes 2;doubts 1;pays 1;");
        x.feed(2, 1, 2, 0, 0, 0);
        x.sheet(0, -1, 0);
        x.sheet(1, 2, 3);
        x.back();
        Checks.due("34 back: texts stay", x.count(3), 2);
        Checks.due("34 back: the tape stays", x.count(5), 2);
        Checks.due("34 back: a sheet stays missing", x.judge(0), -11);
        Checks.due("34 back: a sheet stays", x.cell(1, 2, 5), 1);
    }
}
