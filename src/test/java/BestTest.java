/** Promises 16 to 21: best, few, hire, away, undone, pair. */
final class BestTest {
    public static void main(String[] args) {
        all();
        Checks.finish("BestTest");
    }

    static void all() {
        bestSets();
        bestOfTen();
        bestAsBits();
        bestOfAnother();
        fewest();
        fewestByTheLast();
        hiring();
        hiringAtTheBounds();
        lookingAway();
        boundedAtZero();
        awayForLittle();
        awayOfNobody();
        leavingUndone();
        undoneFirstAndLast();
        pairs();
    }

    private static void bestSets() {
        DrumOfGuilt x = Checks.people(0, 0, 0);
        Checks.due("16 best: no wrongs: set", x.best(0, 0), 0);
        Checks.due("16 best: no wrongs: how", x.best(0, 1), 500);
        x.wrong(1, 2, 2);
        x.wrong(2, 9, 5);
        x.wrong(1, 2, 0);
        x.wrong(1, 1, 2);
        x.wrong(5, 3, 2);
        // 1 saw three of 0's four wrongs (0, 3, 4); strokes are 2, 2, 1, 3; who catches doubts 2.
        Checks.law(x, "weight", "2", "1");
        Checks.due("16 best: nothing is as good as all that is caught", x.best(0, 0), 0);
        Checks.due("16 best: how", x.best(0, 1), 498);
        x.force(0);
        // Each is 1 stroke now, who catches doubts 10: three strokes, of the sets of three the least.
        Checks.due("16 best: three strokes", x.best(0, 0), Checks.bits(0, 2, 3));
        Checks.due("16 best: three strokes, how", x.best(0, 1), 497);
        Checks.law(x, "weight", "9", "1");
        // Three strokes by 2 and 1, or by 3.
        Checks.due("16 best: of like ones the least as bits", x.best(0, 0), Checks.bits(0, 3));
        Checks.due("16 best: so", x.best(0, 1), 497);
        Checks.due("16 best: only one's own", x.best(2, 0), 16);
        Checks.due("16 best: that one's, how", x.best(2, 1), 497);
        x.put(0, 1, 2);
        Checks.due("16 best: all are thought of as 0", x.best(0, 0), 0);
        Checks.due("16 best: 0", x.best(0, 1), 0);
        Checks.due("16 best: nobody", x.best(3, 0), -5);
        Checks.due("16 best: nobody is told first", x.best(-1, 2), -5);
        Checks.due("16 best: what", x.best(0, 2), -7);
        Checks.due("16 best: what below", x.best(0, -1), -7);
    }

    private static void bestOfTen() {
        DrumOfGuilt x = Checks.people(0, 0);
        for (int k = 0; k < 10; k++) {
            x.wrong(1, 1, 2);
        }
        Checks.due("16 best: all ten or none: none is least as bits", x.best(0, 0), 0);
        Checks.due("16 best: all ten or none: how", x.best(0, 1), 490);
        Checks.law(x, "1", "11", "1");
        Checks.due("16 best: all ten are best", x.best(0, 0), 1023);
        Checks.due("16 best: all ten, how", x.best(0, 1), 490);
        Checks.law(x, "1", "9", "1");
        Checks.due("16 best: none of ten is best", x.best(0, 0), 0);
        Checks.due("16 best: none of ten, how", x.best(0, 1), 491);
        Checks.law(x, "20", "99", "1");
        Checks.due("16 best: one of ten", x.best(0, 0), 1);
        Checks.due("16 best: one of ten, how", x.best(0, 1), 480);
        x.amend(0);
        x.wrong(2, 1, 1);
        Checks.due("16 best: another's is no choice", x.best(1, 0), 512);
        Checks.due("16 best: who did none", Checks.people(5, 6).best(1, 0), 0);
    }

    /** Three strokes are wanted: by 0 and 1 (bits 3) or by 2 alone (bits 4): the least as bits are the more. */
    private static void bestAsBits() {
        DrumOfGuilt x = Checks.people(0, 0);
        x.wrong(1, 1, 2);
        x.wrong(1, 2, 2);
        x.wrong(1, 3, 2);
        Checks.law(x, "weight", "99", "1");
        Checks.due("16 best: the least as bits, not the fewest", x.best(0, 0), 3);
        Checks.due("16 best: the least as bits, how", x.best(0, 1), 497);
        x.put(0, 1, 0);
        Checks.due("16 best: thought of 0 by any: none", x.best(0, 0), 0);
        Checks.due("16 best: thought of 0", x.best(0, 1), 0);
        x.put(0, 1, 999);
        Checks.due("16 best: so well thought of", x.best(0, 1), 996);
        x.put(0, 1, 4);
        Checks.due("16 best: just above 0", x.best(0, 0), 3);
        Checks.due("16 best: thought of 1", x.best(0, 1), 1);
    }

    /** A child's strokes are 1 + 2 for each of three that 1 saw: one's will do, and the first one's would not. */
    private static void bestOfAnother() {
        DrumOfGuilt x = Checks.people(0, 0, 12);
        x.wrong(4, 1, 2);
        x.wrong(4, 1, 2);
        x.wrong(4, 1, 2);
        x.wrong(1, 1, 0);
        Checks.due("16 best: by one's own strokes", x.best(2, 0), 1);
        Checks.due("16 best: by one's own strokes, how", x.best(2, 1), 497);
        x.put(2, 1, 700);
        Checks.due("16 best: by one's own name", x.best(2, 1), 697);
        x.wrong(2, 1, 4);
        Checks.due("16 best: another's strokes", x.best(1, 0), 16);
        Checks.due("16 best: another's strokes, how", x.best(1, 1), 499);
        Checks.due("16 best: the first of whom nobody saw any", x.best(0, 0), 0);
        Checks.due("16 best: the first of whom nobody saw any, how", x.best(0, 1), 500);
    }

    private static void fewest() {
        DrumOfGuilt x = Checks.people(10, 0, 0);
        Checks.due("17 few: no wrongs", x.few(0), 0);
        x.wrong(1, 1, 0);
        Checks.due("17 few: none seen", x.few(0), 0);
        x.wrong(1, 1, 2);
        x.wrong(1, 1, 4);
        x.wrong(1, 1, 4);
        x.wrong(3, 1, 4);
        x.wrong(2, 1, 5);
        Checks.due("17 few: by who saw most", x.few(0), 3);
        Checks.due("17 few: another's", x.few(1), 2);
        Checks.due("17 few: none of that one's", x.few(2), 0);
        x.wrong(4, 1, 1);
        Checks.due("17 few: seen by 0 alone", x.few(2), 1);
        Checks.due("17 few: nobody", x.few(3), -5);
        Checks.due("17 few: nobody below", x.few(-1), -5);
        x = Checks.people(0, 0, 0, 0, 0, 0);
        for (int k = 0; k < 10; k++) {
            x.wrong(1, 1, 32);
        }
        Checks.due("17 few: the sixth saw all ten", x.few(0), 10);
        Checks.due("17 few: who saw all, did none", x.few(5), 0);
        Checks.due("17 few: by ten beats nobody catches one", x.dusk(0, 1), 0);
    }

    private static void fewestByTheLast() {
        DrumOfGuilt x = Checks.people(0, 0, 0, 0);
        x.wrong(2, 1, 8);
        Checks.due("17 few: the last of four saw the only wrong", x.few(1), 1);
        Checks.due("17 few: another did none", x.few(2), 0);
    }

    private static void hiring() {
        DrumOfGuilt x = Checks.people(0);
        Checks.due("18 hire: nobody else", x.hire(0, 0), -1);
        Checks.due("18 hire: nobody else, how much", x.hire(0, 1), -1);
        x = Checks.people(0, 42, 0);
        Checks.due("18 hire: nothing to strike for", x.hire(0, 0), 1);
        Checks.due("18 hire: for nothing", x.hire(0, 1), 0);
        Checks.due("18 hire: the first is another one", x.hire(1, 0), 0);
        x.wrong(1, 3, 0);
        x.wrong(2, 9, 0);
        x.wrong(3, 4, 0);
        Checks.due("18 hire: a person", x.hire(0, 0), 2);
        Checks.due("18 hire: that, for both", x.hire(0, 1), 7);
        Checks.due("18 hire: of like ones the first", x.hire(1, 0), 0);
        Checks.due("18 hire: 9 and 4", x.hire(1, 1), 13);
        x = Checks.people(0, 42);
        x.wrong(1, 3, 0);
        x.wrong(1, 4, 0);
        Checks.due("18 hire: a thief asks", x.hire(0, 1), 3 * 3 + 2 + 3 * 4 + 2);
        x.person(20, 50);
        Checks.due("18 hire: a banker asks", x.hire(0, 1), 7);
        x.person(59, 50);
        Checks.due("18 hire: an elder asks no less", x.hire(0, 0), 2);
        x.person(19, 50);
        Checks.due("18 hire: a child", x.hire(0, 0), 4);
        Checks.due("18 hire: a child asks", x.hire(0, 1), 2);
        x.person(39, 50);
        Checks.due("18 hire: a saint asks no less", x.hire(0, 0), 4);
        Checks.due("18 hire: a saint asks", x.hire(4, 1), 0);
        x.wrong(16, 9, 0);
        Checks.due("18 hire: a saint", x.hire(4, 0), 5);
        Checks.due("18 hire: a saint asks 1", x.hire(4, 1), 1);
        x = new DrumOfGuilt();
        x.person(0, 1);
        x.person(0, 9);
        x.person(8, 5);
        x.wrong(1, 1, 0);
        Checks.law(x, "1", "1", "pride - more");
        Checks.due("18 hire: what pays says of who asks", x.hire(0, 0), 2);
        Checks.due("18 hire: bounded", x.hire(0, 1), 0);
        Checks.due("18 hire: nobody", x.hire(3, 0), -5);
        Checks.due("18 hire: nobody is told first", x.hire(-1, 2), -5);
        Checks.due("18 hire: what", x.hire(0, 2), -7);
        Checks.due("18 hire: what below", x.hire(0, -1), -7);
    }

    private static void hiringAtTheBounds() {
        DrumOfGuilt x = Checks.people(0, 10, 30);
        x.wrong(1, 9, 0);
        Checks.law(x, "1", "1", "0");
        Checks.due("18 hire: a child asks 1, though the text says 0", x.hire(0, 1), 1);
        Checks.due("18 hire: a child, the first of like ones", x.hire(0, 0), 1);
        x.wrong(2, 9, 0);
        Checks.due("18 hire: a person for 0", x.hire(1, 0), 0);
        Checks.due("18 hire: a person asks 0", x.hire(1, 1), 0);
        x = Checks.people(0, 49);
        x.wrong(1, 9, 0);
        Checks.law(x, "1", "1", "999");
        Checks.due("18 hire: a thief asks more than 99", x.hire(0, 1), 3 * 99 + 9);
        x.wrong(1, 9, 2);
        x.wrong(3, 9, 0);
        Checks.due("18 hire: a thief's more for each of three", x.hire(0, 1), 3 * (3 * 99 + 9));
        Checks.law(x, "1", "1", "0");
        Checks.due("18 hire: a thief's more, the text says 0", x.hire(0, 1), 3 * 9);
        x = Checks.people(0);
        x.wrong(1, 9, 0);
        Checks.due("18 hire: nobody else, though there is a wrong", x.hire(0, 0), -1);
        Checks.due("18 hire: nobody else, though there is a wrong: how much", x.hire(0, 1), -1);
        Checks.due("18 hire: what, though there is nobody else", x.hire(0, 2), -7);
        Checks.due("18 hire: what below, though there is nobody else", x.hire(0, -1), -7);
        x = Checks.people(0, 0, 0, 0, 0, 10);
        x.wrong(1, 2, 62);
        Checks.due("18 hire: the last of six", x.hire(0, 0), 5);
        Checks.due("18 hire: of a like first, another", x.hire(5, 0), 0);
        x = Checks.people(0, 47, 42);
        x.wrong(1, 2, 0);
        Checks.due("18 hire: of two thieves the one of less more", x.hire(0, 0), 2);
        Checks.due("18 hire: that thief's more", x.hire(0, 1), 3 * 2 + 2);
    }

    private static void lookingAway() {
        DrumOfGuilt x = Checks.people(0, 0, 0);
        Checks.due("19 away: no wrongs", x.away(0), -1);
        Checks.due("19 away: as so", x.away(1), 1500);
        x.wrong(1, 1, 2);
        Checks.due("19 away: nobody is off", x.away(0), -1);
        Checks.due("19 away: as so, one stroke less", x.away(1), 1499);
        Checks.law(x, "0", "10", "1");
        x.wrong(1, 1, 4);
        x.wrong(2, 1, 4);
        // 1 doubts 10 of 0; 2 doubts 10 of 0 and 10 of 1.
        Checks.due("19 away: who should have seen none", x.away(0), 2);
        Checks.due("19 away: that", x.away(1), 1500 - 10);
        x.amend(2);
        Checks.due("19 away: of like ones the first", x.away(0), 1);
        Checks.due("19 away: that, 1 or 2", x.away(1), 1490);
        Checks.due("19 away: what is asked changes nothing", x.deed(0, 2), 2);
        x.amend(1);
        x.amend(0);
        x.wrong(4, 1, 1);
        Checks.due("19 away: 0", x.away(0), 0);
        Checks.due("19 away: without 0", x.away(1), 1500);
        x.amend(0);
        x.wrong(1, 1, 4);
        // The fewer saw it, the more is struck for it: none looks away then.
        Checks.law(x, "5 - 5 * seen", "1", "1");
        Checks.due("19 away: strokes may become more", x.away(0), -1);
        Checks.due("19 away: as it is", x.away(1), 1499);
        Checks.due("19 away: what", x.away(2), -2);
        Checks.due("19 away: what below", x.away(-1), -2);
    }

    /** 0, thought of as little as can be, wins little where 1 doesn't see; 3, well thought of, wins more by 2. */
    private static void boundedAtZero() {
        DrumOfGuilt x = Checks.people(0, 0, 0, 0);
        x.put(0, 1, 5);
        x.wrong(1, 9, 2);
        x.wrong(8, 2, 4);
        Checks.law(x, "0", "10 * weight", "1");
        Checks.due("19 away: nobody is thought of below 0: who", x.away(0), 2);
        Checks.due("19 away: nobody is thought of below 0: that", x.away(1), 500 + 500 + 0 + 500);
        Checks.due("20 undone: nobody is thought of below 0: which", x.undone(0), 1);
        Checks.due("20 undone: nobody is thought of below 0: that", x.undone(1), 500 + 500 + 0 + 500);
        x.put(0, 1, 0);
        x.amend(1);
        Checks.due("19 away: thought of 0 with and without", x.away(0), -1);
        Checks.due("19 away: thought of 0, as so", x.away(1), 1500);
        Checks.due("20 undone: thought of 0 with and without", x.undone(0), -1);
        Checks.due("20 undone: thought of 0, as so", x.undone(1), 1500);
    }

    private static void awayForLittle() {
        DrumOfGuilt x = Checks.people(0, 0);
        x.wrong(1, 1, 2);
        Checks.law(x, "0", "1", "1");
        Checks.due("19 away: 1 more is more", x.away(0), 1);
        Checks.due("19 away: 1 more", x.away(1), 1000);
        Checks.law(x, "0", "0", "1");
        Checks.due("19 away: as much is no more", x.away(0), -1);
    }

    private static void awayOfNobody() {
        DrumOfGuilt x = new DrumOfGuilt();
        Checks.due("19 away: there is nobody", x.away(0), -1);
        Checks.due("19 away: there is nobody: as so", x.away(1), 0);
        Checks.due("20 undone: there is nobody", x.undone(0), -1);
        Checks.due("20 undone: there is nobody: as so", x.undone(1), 0);
        x = Checks.people(0, 0, 0, 0, 0, 0);
        for (int k = 0; k < 10; k++) {
            x.wrong(1, 9, 32);
        }
        Checks.law(x, "0", "10", "1");
        Checks.due("19 away: the sixth, from all ten", x.away(0), 5);
        Checks.due("19 away: the sixth, that", x.away(1), 3000);
        Checks.due("20 undone: one of ten is as none", x.undone(0), -1);
        Checks.due("20 undone: one of ten, as so", x.undone(1), 2990);
    }

    private static void leavingUndone() {
        DrumOfGuilt x = Checks.people(0, 0, 0);
        Checks.due("20 undone: no wrongs", x.undone(0), -1);
        Checks.due("20 undone: as so", x.undone(1), 1500);
        Checks.law(x, "weight", "10", "1");
        x.wrong(1, 2, 0);
        x.wrong(2, 5, 0);
        x.wrong(4, 5, 0);
        x.amend(2);
        x.amend(1);
        Checks.due("20 undone: the only one", x.undone(0), 0);
        Checks.due("20 undone: nothing is struck then", x.undone(1), 1500);
        x.wrong(2, 5, 0);
        x.wrong(4, 5, 0);
        Checks.due("20 undone: of like ones the first", x.undone(0), 1);
        Checks.due("20 undone: that", x.undone(1), 1500 - 2 - 5);
        x.wrong(3, 4, 0);
        Checks.due("20 undone: one that two did", x.undone(0), 3);
        Checks.due("20 undone: that, 8 less struck", x.undone(1), 1500 - 12);
        Checks.due("20 undone: what is asked changes nothing", x.count(1), 4);
        x.amend(3);
        x.amend(2);
        x.amend(1);
        x.amend(0);
        Checks.law(x, "0", "10", "1");
        x.wrong(1, 2, 0);
        Checks.due("20 undone: none is better", x.undone(0), -1);
        Checks.due("20 undone: as it is", x.undone(1), 1500);
        x.wrong(1, 2, 6);
        x.wrong(1, 2, 2);
        Checks.due("20 undone: seen by two", x.undone(0), 1);
        Checks.due("20 undone: so that one catches", x.undone(1), 1490);
        Checks.due("20 undone: what", x.undone(2), -2);
        Checks.due("20 undone: what below", x.undone(-1), -2);
    }

    private static void undoneFirstAndLast() {
        for (int heavy = 0; heavy < 10; heavy++) {
            DrumOfGuilt x = Checks.people(0, 0);
            for (int k = 0; k < 10; k++) {
                x.wrong(1 << k % 2, k == heavy ? 9 : 8, 0);
            }
            Checks.law(x, "weight", "1", "1");
            Checks.due("20 undone: of ten " + heavy, x.undone(0), heavy);
            Checks.due("20 undone: that, of ten", x.undone(1), 1000 - 9 * 8);
        }
        DrumOfGuilt x = Checks.people(0, 0);
        x.wrong(1, 1, 2);
        x.wrong(1, 1, 2);
        Checks.law(x, "shared", "3", "1");
        Checks.due("20 undone: strokes less and not caught more", x.undone(0), 0);
        Checks.due("20 undone: one stroke less", x.undone(1), 999);
        Checks.law(x, "weight", "1", "1");
        x.wrong(3, 9, 0);
        Checks.due("20 undone: the last", x.undone(0), 2);
        x.amend(2);
        x.amend(1);
        // One is seen and not struck for: without it nobody is off.
        Checks.law(x, "0", "7", "1");
        Checks.due("20 undone: nobody catches then", x.undone(1), 1000);
    }

    private static void pairs() {
        DrumOfGuilt x = new DrumOfGuilt();
        Checks.due("21 pair: nobody", x.pair(0), -1);
        Checks.due("21 pair: nobody, how many", x.pair(1), -1);
        x.person(0, 0);
        Checks.due("21 pair: one", x.pair(0), -1);
        Checks.due("21 pair: one, how many", x.pair(1), -1);
        x.person(0, 0);
        x.person(0, 0);
        x.person(0, 0);
        Checks.due("21 pair: none saw any: the first", x.pair(0), 1);
        Checks.due("21 pair: none", x.pair(1), 0);
        x.wrong(2, 1, 8);
        Checks.due("21 pair: one of the other", x.pair(0), 13);
        Checks.due("21 pair: 1", x.pair(1), 1);
        x.wrong(4, 1, 8);
        Checks.due("21 pair: of like ones the first", x.pair(0), 13);
        x.wrong(8, 1, 5);
        Checks.due("21 pair: each of the other", x.pair(0), 23);
        Checks.due("21 pair: together", x.pair(1), 2);
        x.wrong(7, 1, 8);
        x.wrong(2, 1, 0);
        Checks.due("21 pair: one of several doers", x.pair(0), 23);
        Checks.due("21 pair: three", x.pair(1), 3);
        x.wrong(1, 1, 8);
        Checks.due("21 pair: three, too: the first", x.pair(0), 3);
        Checks.due("21 pair: what", x.pair(2), -2);
        Checks.due("21 pair: what below", x.pair(-1), -2);
        Checks.due("21 pair: bad is told first", new DrumOfGuilt().pair(2), -2);
        x = Checks.people(0, 0);
        Checks.due("21 pair: two who saw none", x.pair(0), 1);
        Checks.due("21 pair: two who saw none, how many", x.pair(1), 0);
        x = Checks.people(0, 0, 0, 0, 0, 0);
        for (int k = 0; k < 10; k++) {
            x.wrong(16, 1, 32);
        }
        Checks.due("21 pair: the last two", x.pair(0), 45);
        Checks.due("21 pair: the last two, ten", x.pair(1), 10);
    }
}
