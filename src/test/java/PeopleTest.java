/** Promises 1 to 5 and 10 to 12: a new object, count, wrong, deed, amend, person, put, told. */
final class PeopleTest {
    public static void main(String[] args) {
        all();
        Checks.finish("PeopleTest");
    }

    static void all() {
        aNewObject();
        theFirstText();
        counting();
        countingMost();
        wrongs();
        deeds();
        amending();
        amendingOneOfMany();
        persons();
        putting();
        telling();
        tellingOfEach();
    }

    private static void aNewObject() {
        DrumOfGuilt x = new DrumOfGuilt();
        Checks.due("1 new: people", x.count(0), 0);
        Checks.due("1 new: wrongs", x.count(1), 0);
        Checks.due("1 new: day", x.count(2), 0);
        Checks.due("1 new: texts", x.count(3), 1);
        Checks.due("1 new: the law", x.count(4), 0);
        Checks.due("1 new: the tape", x.count(5), 0);
        for (int s = 0; s < 4; s++) {
            Checks.due("1 new: sheet " + s + " is missing", x.judge(s), -11);
        }
        Checks.due("1 new: no image", x.back(), -3);
        DrumOfGuilt other = Checks.people(1, 2);
        Checks.due("1 new: one object's people are not another one's", new DrumOfGuilt().count(0), 0);
        Checks.due("1 new: they stay", other.count(0), 2);
        Checks.due("1 new: an empty tape ends at 0", new DrumOfGuilt().text(), -100);
    }

    private static void theFirstText() {
        DrumOfGuilt x = Checks.people(0, 27);
        x.wrong(1, 9, 0);
        x.wrong(2, 1, 1);
        for (int p = 0; p < 2; p++) {
            for (int k = 0; k < 2; k++) {
                Checks.due("1 new: text 0: strokes 1", x.asks(0, p, k), 1);
                Checks.due("1 new: text 0: doubts 10", x.asks(1, p, k), 10);
                Checks.due("1 new: text 0: pays weight", x.asks(2, p, k), k == 0 ? 9 : 1);
            }
        }
    }

    private static void counting() {
        DrumOfGuilt x = Checks.people(0, 10, 20);
        x.wrong(1, 1, 0);
        x.wrong(1, 1, 0);
        x.night();
        x.wrong(2, 1, 4);
        Checks.read(x, "strokes 1;doubts 1;pays 1;");
        x.force(1);
        x.feed(5, 1, 2, 3, 4, 5);
        Checks.due("2 count: people", x.count(0), 3);
        Checks.due("2 count: wrongs", x.count(1), 1);
        Checks.due("2 count: day", x.count(2), 1);
        Checks.due("2 count: texts", x.count(3), 2);
        Checks.due("2 count: the law", x.count(4), 1);
        Checks.due("2 count: the tape", x.count(5), 5);
        Checks.due("2 count: above", x.count(6), -2);
        Checks.due("2 count: below", x.count(-1), -2);
    }

    private static void countingMost() {
        DrumOfGuilt x = Checks.people(0, 0, 0, 0, 0, 0);
        for (int k = 0; k < 10; k++) {
            x.wrong(1, 1, 0);
        }
        for (int t = 1; t < 6; t++) {
            Checks.read(x, "strokes 1;doubts 1;pays 1;");
        }
        x.force(4);
        for (int i = 0; i < 32; i++) {
            x.feed(5, 0, 0, 0, 0, 0);
        }
        Checks.due("2 count: six people", x.count(0), 6);
        Checks.due("2 count: ten wrongs", x.count(1), 10);
        Checks.due("2 count: day 0", x.count(2), 0);
        Checks.due("2 count: six texts", x.count(3), 6);
        Checks.due("2 count: the law is not the last text", x.count(4), 4);
        Checks.due("2 count: 160 bytes", x.count(5), 160);
    }

    private static void wrongs() {
        DrumOfGuilt x = new DrumOfGuilt();
        Checks.due("3 wrong: no people", x.wrong(1, 1, 0), -2);
        x = Checks.people(0, 0, 0);
        Checks.due("3 wrong: done by nobody", x.wrong(0, 1, 0), -2);
        Checks.due("3 wrong: a doer that there isn't", x.wrong(8, 1, 0), -2);
        Checks.due("3 wrong: doers below", x.wrong(-1, 1, 0), -2);
        Checks.due("3 wrong: weight below", x.wrong(1, 0, 0), -2);
        Checks.due("3 wrong: weight above", x.wrong(1, 10, 0), -2);
        Checks.due("3 wrong: seen by one that there isn't", x.wrong(1, 1, 8), -2);
        Checks.due("3 wrong: seers below", x.wrong(1, 1, Integer.MIN_VALUE), -2);
        Checks.due("3 wrong: seen by a doer", x.wrong(3, 1, 6), -2);
        Checks.due("3 wrong: none came", x.count(1), 0);
        Checks.due("3 wrong: first", x.wrong(1, 1, 0), 0);
        Checks.due("3 wrong: second", x.wrong(3, 9, 4), 1);
        for (int k = 2; k < 10; k++) {
            Checks.due("3 wrong: number", x.wrong(7, 5, 0), k);
        }
        Checks.due("3 wrong: full", x.wrong(1, 1, 0), -4);
        Checks.due("3 wrong: bad is told ahead of full", x.wrong(1, 1, 1), -2);
        Checks.due("3 wrong: ten", x.count(1), 10);
        x.amend(9);
        Checks.due("3 wrong: room again", x.wrong(1, 1, 0), 9);
        x = Checks.people(0, 0, 0, 0, 0, 0);
        Checks.due("3 wrong: done by all six", x.wrong(63, 1, 0), 0);
        Checks.due("3 wrong: done by the sixth, seen by all others", x.wrong(32, 1, 31), 1);
        Checks.due("3 wrong: a seventh that there can't be", x.wrong(64, 1, 0), -2);
        x = Checks.people(0);
        Checks.due("3 wrong: done by the only one", x.wrong(1, 9, 0), 0);
    }

    private static void deeds() {
        DrumOfGuilt x = Checks.people(0, 0, 0);
        Checks.due("4 deed: none", x.deed(0, 0), -5);
        x.wrong(1, 2, 4);
        x.wrong(5, 9, 2);
        Checks.due("4 deed: doers", x.deed(1, 0), 5);
        Checks.due("4 deed: weight", x.deed(1, 1), 9);
        Checks.due("4 deed: seen by", x.deed(1, 2), 2);
        Checks.due("4 deed: the first one's", x.deed(0, 1), 2);
        Checks.due("4 deed: no such", x.deed(2, 0), -5);
        Checks.due("4 deed: below", x.deed(-1, 0), -5);
        Checks.due("4 deed: no such is told first", x.deed(2, 3), -5);
        Checks.due("4 deed: what", x.deed(0, 3), -7);
        Checks.due("4 deed: what below", x.deed(0, -1), -7);
        x = Checks.people(0, 0, 0, 0, 0, 0);
        x.wrong(63, 1, 0);
        x.wrong(33, 9, 30);
        x.wrong(1, 5, 62);
        Checks.due("4 deed: all six did it", x.deed(0, 0), 63);
        Checks.due("4 deed: nobody saw it", x.deed(0, 2), 0);
        Checks.due("4 deed: weight 1", x.deed(0, 1), 1);
        Checks.due("4 deed: the first and the sixth did it", x.deed(1, 0), 33);
        Checks.due("4 deed: weight 9", x.deed(1, 1), 9);
        Checks.due("4 deed: the four others saw it", x.deed(1, 2), 30);
        Checks.due("4 deed: all others saw it", x.deed(2, 2), 62);
    }

    private static void amending() {
        DrumOfGuilt x = Checks.people(0, 0, 0);
        Checks.due("5 amend: none", x.amend(0), -5);
        x.wrong(1, 2, 4);
        x.wrong(2, 3, 1);
        x.wrong(4, 5, 3);
        Checks.due("5 amend: below", x.amend(-1), -5);
        Checks.due("5 amend: above", x.amend(3), -5);
        Checks.due("5 amend: its weight", x.amend(1), 3);
        Checks.due("5 amend: truly", x.count(1), 2);
        Checks.due("5 amend: the one ahead stays", x.deed(0, 1), 2);
        Checks.due("5 amend: the one behind is 1 less: weight", x.deed(1, 1), 5);
        Checks.due("5 amend: doers", x.deed(1, 0), 4);
        Checks.due("5 amend: seen by", x.deed(1, 2), 3);
        Checks.due("5 amend: the last", x.amend(1), 5);
        Checks.due("5 amend: the first", x.amend(0), 2);
        Checks.due("5 amend: empty", x.amend(0), -5);
    }

    private static void amendingOneOfMany() {
        for (int gone = 0; gone < 5; gone++) {
            DrumOfGuilt x = Checks.people(0, 0, 0, 0, 0);
            for (int k = 0; k < 5; k++) {
                x.wrong(1 << k, 2 + k, 1 << (k + 1) % 5);
            }
            Checks.due("5 amend: " + gone + " of five", x.amend(gone), 2 + gone);
            for (int k = 0; k < 4; k++) {
                int was = k < gone ? k : k + 1;
                String call = "5 amend: " + gone + " of five is gone, " + k + " was " + was + ": ";
                Checks.due(call + "doers", x.deed(k, 0), 1 << was);
                Checks.due(call + "weight", x.deed(k, 1), 2 + was);
                Checks.due(call + "seen by", x.deed(k, 2), 1 << (was + 1) % 5);
            }
            Checks.due("5 amend: of five there are four", x.count(1), 4);
            Checks.due("5 amend: the fifth place is empty", x.deed(4, 0), -5);
        }
    }

    private static void persons() {
        DrumOfGuilt x = new DrumOfGuilt();
        Checks.due("10 person: kind below", x.person(-1, 0), -2);
        Checks.due("10 person: kind above", x.person(60, 0), -2);
        Checks.due("10 person: pride below", x.person(0, -1), -2);
        Checks.due("10 person: pride above", x.person(0, 100), -2);
        Checks.due("10 person: none came", x.count(0), 0);
        Checks.due("10 person: first", x.person(0, 0), 0);
        Checks.due("10 person: second", x.person(59, 99), 1);
        Checks.due("10 person: kind", x.told(1, 2), 5);
        Checks.due("10 person: more", x.told(1, 3), 9);
        Checks.due("10 person: pride", x.told(1, 0), 99);
        Checks.due("10 person: name as one comes", x.told(1, 1), 500);
        for (int p = 2; p < 6; p++) {
            Checks.due("10 person: number", x.person(10 * p, p), p);
        }
        Checks.due("10 person: full", x.person(0, 0), -4);
        Checks.due("10 person: bad is told ahead of full", x.person(60, 0), -2);
    }

    private static void putting() {
        DrumOfGuilt x = Checks.people(0, 10);
        Checks.due("11 put: pride", x.put(1, 0, 99), 50);
        Checks.due("11 put: pride again", x.put(1, 0, 0), 99);
        Checks.due("11 put: name", x.put(1, 1, 999), 500);
        Checks.due("11 put: name again", x.put(1, 1, 0), 999);
        Checks.due("11 put: nobody", x.put(2, 0, 0), -5);
        Checks.due("11 put: nobody below", x.put(-1, 0, 0), -5);
        Checks.due("11 put: nobody is told first", x.put(2, 2, -1), -5);
        Checks.due("11 put: what", x.put(0, 2, 0), -7);
        Checks.due("11 put: what below", x.put(0, -1, 0), -7);
        Checks.due("11 put: pride above", x.put(0, 0, 100), -7);
        Checks.due("11 put: pride below", x.put(0, 0, -1), -7);
        Checks.due("11 put: name above", x.put(0, 1, 1000), -7);
        Checks.due("11 put: name below", x.put(0, 1, -1), -7);
        Checks.due("11 put: the other stays so proud", x.told(0, 0), 50);
        Checks.due("11 put: the other's name stays", x.told(0, 1), 500);
        Checks.due("11 put: is", x.told(1, 0), 0);
        Checks.due("11 put: is so called", x.told(1, 1), 0);
        Checks.due("11 put: what the first one's pride was", x.put(0, 0, 7), 50);
        Checks.due("11 put: what the first one's name was", x.put(0, 1, 8), 500);
        Checks.due("11 put: what it became", x.put(0, 1, 9), 8);
        x.person(0, 60);
        Checks.due("11 put: what the last one's pride was", x.put(2, 0, 5), 60);
        Checks.due("11 put: the first stays so proud", x.told(0, 0), 7);
        Checks.due("11 put: the other stays so proud still", x.told(1, 0), 0);
    }

    private static void telling() {
        DrumOfGuilt x = new DrumOfGuilt();
        Checks.due("12 told: nobody", x.told(0, 0), -5);
        x.person(37, 12);
        x.person(20, 13);
        x.person(20, 13);
        x.wrong(1, 1, 6);
        x.wrong(3, 1, 4);
        x.wrong(6, 1, 1);
        Checks.due("12 told: pride", x.told(0, 0), 12);
        Checks.due("12 told: name", x.told(0, 1), 500);
        Checks.due("12 told: kind", x.told(0, 2), 3);
        Checks.due("12 told: more", x.told(0, 3), 7);
        Checks.due("12 told: did", x.told(0, 4), 2);
        Checks.due("12 told: saw", x.told(0, 5), 1);
        Checks.due("12 told: the last did", x.told(2, 4), 1);
        Checks.due("12 told: the last saw", x.told(2, 5), 2);
        Checks.due("12 told: what", x.told(0, 6), -7);
        Checks.due("12 told: what below", x.told(0, -1), -7);
        Checks.due("12 told: nobody above", x.told(3, 0), -5);
        Checks.due("12 told: nobody is told first", x.told(-1, 9), -5);
    }

    private static void tellingOfEach() {
        DrumOfGuilt x = new DrumOfGuilt();
        for (int p = 0; p < 6; p++) {
            x.person(10 * p + 9 - p, 99 - 10 * p);
            x.put(p, 1, 999 - 100 * p);
        }
        for (int k = 0; k < 10; k++) {
            x.wrong(1, 1, 32);
        }
        for (int p = 0; p < 6; p++) {
            Checks.due("12 told: pride of " + p, x.told(p, 0), 99 - 10 * p);
            Checks.due("12 told: name of " + p, x.told(p, 1), 999 - 100 * p);
            Checks.due("12 told: kind of " + p, x.told(p, 2), p);
            Checks.due("12 told: more of " + p, x.told(p, 3), 9 - p);
            Checks.due("12 told: how many " + p + " did", x.told(p, 4), p == 0 ? 10 : 0);
            Checks.due("12 told: how many " + p + " saw", x.told(p, 5), p == 5 ? 10 : 0);
        }
    }
}
