/** Promises 25 to 30: judge, kinds, prides, whose, laws, film. */
final class EveningsTest {
    public static void main(String[] args) {
        all();
        Checks.finish("EveningsTest");
    }

    static void all() {
        judging();
        judgingSix();
        sheetsOfSorts();
        whichKinds();
        whichMores();
        whichPrides();
        whichPridesOfAnother();
        whoseWrong();
        whichLaws();
        filming();
    }

    /** 0 strikes 3, 1 (a child and more 2) strikes 3 + 2 and 4 + 2, 2 strikes 4. */
    private static DrumOfGuilt three() {
        DrumOfGuilt x = Checks.people(0, 12, 0);
        x.wrong(3, 3, 0);
        x.wrong(6, 4, 1);
        Checks.law(x, "weight", "1", "1");
        return x;
    }

    private static void judging() {
        DrumOfGuilt x = three();
        Checks.due("25 judge: below", x.judge(-1), -2);
        Checks.due("25 judge: above", x.judge(4), -2);
        Checks.due("25 judge: missing", x.judge(0), -11);
        Checks.tell(x, 0, 3, 11, 4);
        Checks.due("25 judge: all so", x.judge(0), -1);
        Checks.tell(x, 0, 3, 11);
        Checks.due("25 judge: two told", x.judge(0), -1);
        Checks.tell(x, 0);
        Checks.due("25 judge: none told", x.judge(0), -1);
        Checks.tell(x, 0, 3, 10, 5);
        Checks.due("25 judge: the first that is otherwise", x.judge(0), 1);
        Checks.tell(x, 0, 2, 10, 4);
        Checks.due("25 judge: 0", x.judge(0), 0);
        Checks.tell(x, 3, 3, 11, 3);
        Checks.due("25 judge: the last", x.judge(3), 2);
        Checks.tell(x, 0, 3, 11, 4, 0);
        Checks.due("25 judge: it tells of more", x.judge(0), -2);
        x = new DrumOfGuilt();
        Checks.tell(x, 0);
        Checks.due("25 judge: nobody, none told", x.judge(0), -1);
        Checks.tell(x, 0, 0);
        Checks.due("25 judge: nobody, one told", x.judge(0), -2);
        x.sheet(0, 0, 40);
        Checks.due("25 judge: nobody, forty told", x.judge(0), -2);
    }

    private static void judgingSix() {
        DrumOfGuilt x = Checks.people(0, 0, 0, 0, 0, 0);
        for (int p = 0; p < 6; p++) {
            x.wrong(1 << p, 1 + p, 0);
        }
        Checks.law(x, "weight", "1", "1");
        for (int first = 0; first < 6; first++) {
            Checks.tell(x, 1, 1, 2, 3, 4, 5, 6);
            Checks.due("25 judge: all six are so", x.judge(1), -1);
            for (int p = first; p < 6; p++) {
                x.cell(1, p, 9);
            }
            Checks.due("25 judge: from " + first + " on all are otherwise", x.judge(1), first);
        }
        Checks.tell(x, 1, 1, 2, 3, 4, 5, 7);
        Checks.due("25 judge: the sixth is otherwise", x.judge(1), 5);
        Checks.tell(x, 1, 1, 2, 3, 4, 5);
        Checks.due("25 judge: of the sixth nothing is told", x.judge(1), -1);
        Checks.tell(x, 1, 1, 2, 3, 4, 5, 6, 0);
        Checks.due("25 judge: a seventh is told of", x.judge(1), -2);
        Checks.tell(x, 1, -1);
        Checks.due("25 judge: below 0 is otherwise", x.judge(1), 0);
    }

    private static void sheetsOfSorts() {
        DrumOfGuilt x = three();
        Checks.tellOf(x, 0, 0, 3, 11, 4);
        Checks.due("25 judge: bytes", x.judge(0), -1);
        Checks.tellOf(x, 0, 1, 3, 11, 4);
        Checks.due("25 judge: shorts", x.judge(0), -1);
        Checks.tellOf(x, 0, 0, 3 + 256, 11 - 256, 4);
        Checks.due("25 judge: bytes keep their lowest 8 bits", x.judge(0), -1);
        Checks.tellOf(x, 0, 1, 3 + 256, 11, 4);
        Checks.due("25 judge: shorts keep more", x.judge(0), 0);
        Checks.tellOf(x, 0, 1, 3 + 65536, 11 - 65536, 4);
        Checks.due("25 judge: shorts keep their lowest 16 bits", x.judge(0), -1);
        Checks.tellOf(x, 0, 2, 3 + 65536, 11, 4);
        Checks.due("25 judge: ints keep more", x.judge(0), 0);
        // Bytes are numbers from -128 to 127: no byte is 10 wrongs of 20 strokes.
        DrumOfGuilt y = Checks.people(0);
        Checks.law(y, "20", "1", "1");
        for (int k = 0; k < 10; k++) {
            y.wrong(1, 1, 0);
        }
        Checks.tellOf(y, 0, 0, 200);
        Checks.due("25 judge: a byte of 200 is -56", y.judge(0), 0);
        Checks.tellOf(y, 0, 1, 200);
        Checks.due("25 judge: a short of 200", y.judge(0), -1);
    }

    private static void whichKinds() {
        DrumOfGuilt x = three();
        Checks.due("26 kinds: below", x.kinds(-1, 0, 0), -2);
        Checks.due("26 kinds: above", x.kinds(4, 9, 9), -2);
        Checks.due("26 kinds: missing", x.kinds(0, 9, 9), -11);
        Checks.tell(x, 0, 3, 11, 4, 0);
        Checks.due("26 kinds: it tells of more", x.kinds(0, 9, 9), -2);
        Checks.tell(x, 0, 3, 11, 4);
        Checks.due("26 kinds: nobody", x.kinds(0, 3, 9), -5);
        Checks.due("26 kinds: nobody below", x.kinds(0, -1, 0), -5);
        Checks.due("26 kinds: sort", x.kinds(0, 0, 2), -7);
        Checks.due("26 kinds: sort below", x.kinds(0, 0, -1), -7);
        // 0 has more 0: a child's 3 + 0, too; 1: only a child; 2: a child's 4, too.
        Checks.due("26 kinds: 0", x.kinds(0, 0, 0), Checks.bits(0, 1));
        Checks.due("26 kinds: 1", x.kinds(0, 1, 0), Checks.bits(1));
        Checks.due("26 kinds: 2", x.kinds(0, 2, 0), Checks.bits(0, 1));
        Checks.tell(x, 0, 1, 11, 4);
        // A banker's 3 / 2; an elder's 1.
        Checks.due("26 kinds: were 0 to strike 1", x.kinds(0, 0, 0), Checks.bits(2, 5));
        Checks.due("26 kinds: what 0 strikes is otherwise", x.kinds(0, 1, 0), 0);
        Checks.tell(x, 0, 6, 11, 4);
        Checks.due("26 kinds: a saint", x.kinds(0, 0, 0), Checks.bits(3));
        Checks.tell(x, 0, 0, 11, 4);
        Checks.due("26 kinds: a thief among two", x.kinds(0, 0, 0), Checks.bits(4));
        Checks.tell(x, 0, 3, 11);
        Checks.due("26 kinds: nothing is told of 2", x.kinds(0, 2, 0), 63);
        Checks.due("26 kinds: what is asked changes nothing", x.told(1, 2), 1);
    }

    private static void whichMores() {
        DrumOfGuilt x = three();
        Checks.tell(x, 0, 3, 11, 4);
        Checks.due("26 kinds: more of a person", x.kinds(0, 0, 1), 1023);
        Checks.due("26 kinds: more of a child", x.kinds(0, 1, 1), Checks.bits(2));
        Checks.tell(x, 0, 3, 25, 4);
        Checks.due("26 kinds: more 9", x.kinds(0, 1, 1), Checks.bits(9));
        Checks.tell(x, 0, 3, 27, 4);
        Checks.due("26 kinds: more than 9", x.kinds(0, 1, 1), 0);
        x = Checks.people(53);
        x.wrong(1, 4, 0);
        Checks.tell(x, 0, 1);
        Checks.due("26 kinds: more below the weight", x.kinds(0, 0, 1), Checks.bits(0, 1, 2, 3));
        Checks.law(x, "more * 2", "1", "1");
        Checks.due("26 kinds: what is asked changes nothing", x.told(0, 3), 3);
        x = Checks.people(3);
        x.wrong(1, 4, 0);
        Checks.law(x, "more * 3", "1", "1");
        Checks.tell(x, 0, 20);
        Checks.due("26 kinds: more that the text tells", x.kinds(0, 0, 1), Checks.bits(7, 8, 9));
    }

    private static void whichPrides() {
        DrumOfGuilt x = three();
        Checks.due("27 prides: below", x.prides(-1, 9, 9), -2);
        Checks.due("27 prides: above", x.prides(4, 0, 0), -2);
        Checks.due("27 prides: missing", x.prides(0, 9, 9), -11);
        Checks.tell(x, 0, 3, 11, 4, 0);
        Checks.due("27 prides: it tells of more", x.prides(0, 9, 9), -2);
        Checks.tell(x, 0, 3, 11, 4);
        Checks.due("27 prides: nobody", x.prides(0, 3, 9), -5);
        Checks.due("27 prides: nobody below", x.prides(0, -1, 0), -5);
        Checks.due("27 prides: what", x.prides(0, 0, 2), -7);
        Checks.due("27 prides: what below", x.prides(0, 0, -1), -7);
        Checks.due("27 prides: all", x.prides(0, 0, 0), 100);
        Checks.due("27 prides: all, the least", x.prides(0, 0, 1), 0);
        Checks.law(x, "3 + (30 < pride) + (97 < pride)", "1", "1");
        // 0 strikes 4, 1 strikes 4 + 2 for each, 2 strikes 4: all are of pride 50.
        Checks.tell(x, 0, 4, 12, 4);
        Checks.due("27 prides: 31 to 97", x.prides(0, 0, 0), 67);
        Checks.due("27 prides: 31", x.prides(0, 0, 1), 31);
        Checks.tell(x, 0, 5, 12, 4);
        Checks.due("27 prides: 98, 99", x.prides(0, 0, 0), 2);
        Checks.due("27 prides: 98", x.prides(0, 0, 1), 98);
        Checks.due("27 prides: another is otherwise", x.prides(0, 1, 0), 0);
        Checks.tell(x, 0, 6, 12, 4);
        Checks.due("27 prides: none", x.prides(0, 0, 0), 0);
        Checks.due("27 prides: the least of none", x.prides(0, 0, 1), -1);
        Checks.due("27 prides: what is asked changes nothing", x.told(0, 0), 50);
        Checks.tell(x, 0, 4, 12);
        Checks.due("27 prides: nothing is told of 2: all", x.prides(0, 2, 0), 100);
        Checks.due("27 prides: nothing is told of 2: the least", x.prides(0, 2, 1), 0);
        Checks.tell(x, 0, 3, 12);
        Checks.due("27 prides: up to 30", x.prides(0, 0, 0), 31);
        Checks.due("27 prides: from 0 on", x.prides(0, 0, 1), 0);
        Checks.due("27 prides: another is otherwise, nothing is told of 2", x.prides(0, 2, 0), 0);
        Checks.due("27 prides: another is otherwise, the least", x.prides(0, 2, 1), -1);
        x.put(0, 0, 99);
        Checks.tell(x, 0, 5, 12, 4);
        Checks.due("27 prides: as it is, 98 would do", x.prides(0, 0, 1), 98);
        Checks.law(x, "99 < pride + 1", "1", "1");
        Checks.tell(x, 0, 1);
        Checks.due("27 prides: 99 alone", x.prides(0, 0, 0), 1);
        Checks.due("27 prides: 99 is the least", x.prides(0, 0, 1), 99);
    }

    private static void whichPridesOfAnother() {
        DrumOfGuilt x = Checks.people(0, 0, 0);
        x.wrong(3, 1, 0);
        Checks.law(x, "30 < pride", "1", "1");
        Checks.tell(x, 2, 1, 1);
        Checks.due("27 prides: of another than the first: 31 to 99", x.prides(2, 1, 0), 69);
        Checks.due("27 prides: of another than the first: 31", x.prides(2, 1, 1), 31);
        Checks.tell(x, 3, 1, 0, 0);
        Checks.due("27 prides: of another than the first: 0 to 30", x.prides(3, 1, 0), 31);
        Checks.due("27 prides: of another than the first: 0", x.prides(3, 1, 1), 0);
    }

    private static void whoseWrong() {
        DrumOfGuilt x = three();
        Checks.due("28 whose: below", x.whose(-1, 9, 9), -2);
        Checks.due("28 whose: above", x.whose(4, 0, 0), -2);
        Checks.due("28 whose: missing", x.whose(0, 9, 9), -11);
        Checks.tell(x, 0, 3, 11, 4, 0);
        Checks.due("28 whose: it tells of more", x.whose(0, 9, 9), -2);
        Checks.tell(x, 0, 3, 11, 4);
        Checks.due("28 whose: no such wrong", x.whose(0, 2, 9), -6);
        Checks.due("28 whose: no such wrong below", x.whose(0, -1, 0), -6);
        Checks.due("28 whose: what", x.whose(0, 0, 2), -7);
        Checks.due("28 whose: what below", x.whose(0, 0, -1), -7);
        Checks.due("28 whose: as it is", x.whose(0, 1, 0), 1);
        Checks.due("28 whose: by these", x.whose(0, 1, 1), 6);
        Checks.tell(x, 0, 7, 5, 0);
        Checks.due("28 whose: also of who saw it", x.whose(0, 1, 0), 1);
        Checks.due("28 whose: by who saw it", x.whose(0, 1, 1), 1);
        Checks.tell(x, 0, 7);
        Checks.due("28 whose: 0 and any others", x.whose(0, 1, 0), 4);
        Checks.due("28 whose: 0 alone is the least", x.whose(0, 1, 1), 1);
        Checks.tell(x, 0, 3);
        Checks.due("28 whose: any but 0, and somebody", x.whose(0, 1, 0), 3);
        Checks.due("28 whose: 1 alone is the least", x.whose(0, 1, 1), 2);
        Checks.tell(x, 0, 9, 9, 9);
        Checks.due("28 whose: none", x.whose(0, 1, 0), 0);
        Checks.due("28 whose: the least of none", x.whose(0, 1, 1), -1);
        Checks.tell(x, 0);
        Checks.due("28 whose: nothing told, all sets but that of nobody", x.whose(0, 0, 0), 7);
        Checks.law(x, "shared", "1", "1");
        // The other wrong's doers are 0 and 1: 2 for 0, 2 + 2 for 1.
        Checks.tell(x, 0, 5, 9, 3);
        Checks.due("28 whose: all three", x.whose(0, 1, 1), 7);
        Checks.law(x, "seen", "1", "1");
        // The wrong stays seen by 0, though 0 did it: 1 stroke; a child's is 1 + 2; of the other wrong 0 and 0 + 2.
        Checks.tell(x, 0, 1, 2, 0);
        Checks.due("28 whose: seen by so many as it was", x.whose(0, 1, 1), 1);
        Checks.due("28 whose: what is asked changes nothing", x.deed(1, 0), 6);
        x = Checks.people(0, 0, 0, 0, 0, 0);
        x.wrong(1, 5, 62);
        Checks.tell(x, 0);
        Checks.due("28 whose: of six, nothing told", x.whose(0, 0, 0), 63);
        Checks.due("28 whose: of six, nothing told, the least", x.whose(0, 0, 1), 1);
        Checks.tell(x, 0, 1, 1, 1, 1, 1, 1);
        Checks.due("28 whose: of six all", x.whose(0, 0, 0), 1);
        Checks.due("28 whose: of six all, the least", x.whose(0, 0, 1), 63);
        Checks.tell(x, 0, 0, 0, 0, 0, 0, 1);
        Checks.due("28 whose: the sixth alone, who saw it", x.whose(0, 0, 1), 32);
        Checks.tell(x, 0, 0, 0, 0, 0, 0, 0);
        Checks.due("28 whose: that of nobody is none", x.whose(0, 0, 0), 0);
        Checks.due("28 whose: that of nobody is none, the least", x.whose(0, 0, 1), -1);
        x = Checks.people(0);
        x.wrong(1, 5, 0);
        Checks.tell(x, 0, 1);
        Checks.due("28 whose: of one", x.whose(0, 0, 0), 1);
    }

    private static void whichLaws() {
        DrumOfGuilt x = three();
        Checks.due("29 laws: below", x.laws(-1), -2);
        Checks.due("29 laws: above", x.laws(4), -2);
        Checks.due("29 laws: missing", x.laws(0), -11);
        Checks.tell(x, 0, 3, 11, 4, 0);
        Checks.due("29 laws: it tells of more", x.laws(0), -2);
        Checks.tell(x, 0, 3, 11, 4);
        Checks.due("29 laws: the law", x.laws(0), Checks.bits(1));
        Checks.tell(x, 0, 1, 6, 1);
        Checks.due("29 laws: the first", x.laws(0), Checks.bits(0));
        Checks.law(x, "shared - 1", "1", "1");
        Checks.read(x, "strokes 9;doubts 1;pays 1;");
        Checks.due("29 laws: two of four", x.laws(0), Checks.bits(0, 2));
        Checks.tell(x, 0, 8, 6, 1);
        Checks.due("29 laws: none", x.laws(0), 0);
        Checks.tell(x, 0);
        Checks.due("29 laws: all, nothing is told", x.laws(0), 15);
        Checks.due("29 laws: what is asked changes nothing", x.count(4), 2);
        Checks.due("29 laws: beats stay", x.dusk(0, 0), 1);
        x = Checks.people(0);
        x.wrong(1, 4, 0);
        for (int t = 1; t < 6; t++) {
            Checks.read(x, "strokes " + (t == 5 ? 1 : t) + ";doubts 1;pays 1;");
        }
        Checks.tell(x, 0, 1);
        Checks.due("29 laws: of six the first, the second and the sixth", x.laws(0), Checks.bits(0, 1, 5));
        Checks.tell(x, 0);
        Checks.due("29 laws: all six", x.laws(0), 63);
        x = Checks.people(0);
        Checks.tell(x, 0);
        Checks.due("29 laws: there is one alone", x.laws(0), 1);
        Checks.due("29 laws: of nobody", lawsOfNobody(), 1);
    }

    private static int lawsOfNobody() {
        DrumOfGuilt x = new DrumOfGuilt();
        x.sheet(3, 0, 0);
        return x.laws(3);
    }

    private static void filming() {
        DrumOfGuilt x = three();
        Checks.due("30 film: below", x.film(-1), -2);
        Checks.due("30 film: above", x.film(4), -2);
        Checks.tell(x, 2, 7, 7, 7, 7, 7);
        Checks.due("30 film: how many", x.film(2), 3);
        Checks.due("30 film: beats of all", x.judge(2), -1);
        Checks.due("30 film: three are told of, no more", x.cell(2, 3, 0), -12);
        Checks.due("30 film: shorts", x.sheet(3, 1, 3), 1);
        Checks.due("30 film: of shorts' sort", x.copy(2, 0, 3, 0, 3), 3);
        Checks.due("30 film: the same", x.judge(3), -1);
        x.amend(0);
        Checks.due("30 film: it stays as it was", x.judge(2), 0);
        Checks.due("30 film: again", x.film(2), 3);
        Checks.due("30 film: as it is now", x.judge(2), -1);
        x = new DrumOfGuilt();
        Checks.due("30 film: nobody", x.film(0), 0);
        Checks.due("30 film: an empty row", x.cell(0, 0, 0), -12);
        for (int s = 0; s < 4; s++) {
            x = three();
            Checks.due("30 film: a missing one, " + s, x.film(s), 3);
            Checks.due("30 film: a missing one becomes beats of all, " + s, x.judge(s), -1);
            Checks.due("30 film: it tells of the last, " + s, x.kinds(s, 2, 0), Checks.bits(0, 1));
            x.sheet((s + 1) % 4, 1, 1);
            Checks.due("30 film: it is of shorts, " + s, x.copy(s, 0, (s + 1) % 4, 0, 1), 1);
        }
        for (int sort = 0; sort < 3; sort++) {
            x = three();
            x.sheet(1, sort, 9);
            x.film(1);
            Checks.due("30 film: shorts, though it was of sort " + sort, x.peopleBy(1, 1, 0, 0), 0);
            Checks.due("30 film: three, though it was of nine", x.cell(1, 3, 0), -12);
        }
        // More beats than a byte holds.
        x = Checks.people(39);
        Checks.law(x, "20", "1", "1");
        for (int k = 0; k < 10; k++) {
            x.wrong(1, 1, 0);
        }
        Checks.due("30 film: 580 beats", x.dusk(0, 0), 580);
        x.film(0);
        Checks.due("30 film: 580 told", x.judge(0), -1);
        Checks.tell(x, 1, 580);
        Checks.due("30 film: 580 is so", x.judge(1), -1);
    }
}
