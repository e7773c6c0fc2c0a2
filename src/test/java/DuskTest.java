/** The kinds, and promises 13 to 15: dusk, town, night. */
final class DuskTest {
    public static void main(String[] args) {
        all();
        Checks.finish("DuskTest");
    }

    static void all() {
        strokesOfKinds();
        strokesOfElders();
        halvesAreCut();
        doubtsOfKinds();
        catchingWithoutDoubt();
        lossIsNotBound();
        dusks();
        doubtsOfTheLastSeen();
        strokesOfEachDoer();
        lossByTheLastOfOnes();
        lossByWhoCatches();
        bounds();
        towns();
        townOfFewWrongs();
        townOfTwoCaught();
        nights();
        nightOfNobody();
        nightOfAll();
        nightOfTheLast();
        theLastNight();
    }

    /** One of each kind, and more 3, does a wrong of weight 4 alone. */
    private static int beatsAlone(int kind, String strokes) {
        DrumOfGuilt x = Checks.people(10 * kind + 3, 0);
        x.wrong(1, 4, 0);
        Checks.law(x, strokes, "1", "1");
        return x.dusk(0, 0);
    }

    private static void strokesOfKinds() {
        Checks.due("13 dusk: strokes of a person", beatsAlone(0, "7"), 7);
        Checks.due("13 dusk: strokes of a child", beatsAlone(1, "7"), 10);
        Checks.due("13 dusk: strokes of a banker", beatsAlone(2, "7"), 3);
        Checks.due("13 dusk: strokes of a saint", beatsAlone(3, "7"), 20);
        Checks.due("13 dusk: strokes of a thief", beatsAlone(4, "7"), 3);
        Checks.due("13 dusk: strokes of an elder", beatsAlone(5, "7"), 1);
        Checks.due("13 dusk: strokes of a person, bounded", beatsAlone(0, "99"), 20);
        Checks.due("13 dusk: strokes of a child, above the bound", beatsAlone(1, "99"), 23);
        Checks.due("13 dusk: strokes of a saint, above the bound", beatsAlone(3, "99"), 46);

        DrumOfGuilt x = Checks.people(40, 54, 55);
        x.wrong(3, 5, 0);
        Checks.law(x, "8", "1", "1");
        Checks.due("13 dusk: strokes of a thief among two", x.dusk(0, 0), 0);
        Checks.due("13 dusk: strokes of an elder, weight above more", x.dusk(1, 0), 1);
        x.wrong(7, 5, 0);
        Checks.due("13 dusk: strokes of a thief among three", x.dusk(0, 0), 0);
        x.wrong(1, 5, 6);
        Checks.due("13 dusk: strokes of a thief alone, though two saw it", x.dusk(0, 0), 4);
        x.amend(2);
        x.amend(1);
        x.amend(0);
        x.wrong(4, 5, 0);
        Checks.due("13 dusk: strokes of an elder, weight as more", x.dusk(2, 0), 0);
        Checks.due("13 dusk: strokes for what another one did", x.dusk(1, 0), 0);
    }

    /** An elder, and more so much, does a wrong so heavy. */
    private static int elderBeats(int more, int weight, String strokes) {
        DrumOfGuilt x = Checks.people(50 + more);
        x.wrong(1, weight, 0);
        Checks.law(x, strokes, "1", "1");
        return x.dusk(0, 0);
    }

    private static void strokesOfElders() {
        for (int more = 0; more < 10; more++) {
            for (int weight = 1; weight < 10; weight++) {
                String call = "13 dusk: strokes of an elder, weight " + weight + ", more " + more;
                Checks.due(call, elderBeats(more, weight, "7"), weight > more ? 1 : 0);
            }
        }
        DrumOfGuilt x = Checks.people(54);
        x.wrong(1, 4, 0);
        x.wrong(1, 5, 0);
        x.wrong(1, 9, 0);
        Checks.due("13 dusk: strokes of an elder, two of three above more", x.dusk(0, 0), 2);
        Checks.due("13 dusk: strokes of an elder, the text says 0", elderBeats(3, 4, "0"), 1);
        Checks.due("13 dusk: strokes of an elder, the text says 20", elderBeats(4, 4, "20"), 0);
    }

    private static void halvesAreCut() {
        for (int said = 0; said < 4; said++) {
            Checks.due("13 dusk: half of " + said + " strokes, of a banker", beatsAlone(2, "" + said), said / 2);
            Checks.due("13 dusk: half of " + said + " strokes, of a thief", beatsAlone(4, "" + said), said / 2);
            Checks.due("13 dusk: half of " + said + " doubts, of a saint", lossBy(3, 1, "" + said), said / 2);
        }
        Checks.due("13 dusk: strokes of a child, the text says 0", beatsAlone(1, "0"), 3);
        Checks.due("13 dusk: strokes of a child, the text says less", beatsAlone(1, "0-7"), 3);
        Checks.due("13 dusk: strokes of a saint, the text says 0", beatsAlone(3, "0"), 6);
        Checks.due("13 dusk: strokes of a banker, half of the bound", beatsAlone(2, "99"), 10);
    }

    /** One does as many wrongs, all seen by one of each kind, and more 3. */
    private static int lossBy(int kind, int wrongs, String doubts) {
        DrumOfGuilt x = Checks.people(0, 10 * kind + 3);
        for (int k = 0; k < wrongs; k++) {
            x.wrong(1, 4, 2);
        }
        Checks.law(x, "0", doubts, "1");
        return x.dusk(0, 2);
    }

    private static void doubtsOfKinds() {
        Checks.due("13 dusk: a person doubts", lossBy(0, 1, "7"), 7);
        Checks.due("13 dusk: a child doubts", lossBy(1, 1, "7"), 7);
        Checks.due("13 dusk: a banker doubts, off 1", lossBy(2, 1, "7"), 0);
        Checks.due("13 dusk: a banker doubts, off 2", lossBy(2, 2, "7"), 0);
        Checks.due("13 dusk: a banker doubts, off 3", lossBy(2, 3, "7"), 7);
        Checks.due("13 dusk: a saint doubts", lossBy(3, 1, "7"), 3);
        Checks.due("13 dusk: a thief doubts, off 2", lossBy(4, 2, "7"), 0);
        Checks.due("13 dusk: a thief doubts, off 3", lossBy(4, 3, "7"), 7);
        Checks.due("13 dusk: an elder doubts, off 1", lossBy(5, 1, "7"), 8);
        Checks.due("13 dusk: an elder doubts, off 3", lossBy(5, 3, "7"), 10);
        Checks.due("13 dusk: an elder doubts, above the bound", lossBy(5, 4, "500"), 103);
        Checks.due("13 dusk: a saint doubts, of the bound", lossBy(3, 4, "500"), 49);
    }

    private static void catchingWithoutDoubt() {
        DrumOfGuilt x = Checks.people(0, 20, 40, 0);
        x.wrong(1, 4, 6);
        Checks.law(x, "0", "9", "1");
        Checks.due("13 dusk: a banker and a thief catch, off 1", x.dusk(0, 1), 6);
        Checks.due("13 dusk: though they doubt 0", x.dusk(0, 2), 0);
        Checks.due("13 dusk: who saw none does not catch", x.dusk(3, 1), 0);
        Checks.law(x, "1", "9", "1");
        Checks.due("13 dusk: off 0, nobody catches", x.dusk(0, 1), 0);
        Checks.due("13 dusk: off 0, nobody doubts", x.dusk(0, 2), 0);
        Checks.law(x, "2", "9", "1");
        Checks.due("13 dusk: off by less than 0, nobody catches", x.dusk(0, 1), 0);
        x.wrong(8, 4, 2);
        x.wrong(2, 4, 9);
        Checks.law(x, "0", "0", "1");
        Checks.due("13 dusk: another's wrong is not one's", x.dusk(0, 1), 6);
        Checks.due("13 dusk: who doubts 0 by the text catches", x.dusk(1, 1), 9);
    }

    private static void lossIsNotBound() {
        DrumOfGuilt x = Checks.people(0, 0, 10, 50, 50, 50);
        for (int k = 0; k < 10; k++) {
            x.wrong(1, 1, 62);
        }
        Checks.law(x, "0", "999", "1");
        Checks.due("13 dusk: loss of 99 twice and of 99 and 10 three times", x.dusk(0, 2), 2 * 99 + 3 * 109);
        Checks.due("13 dusk: loss is above one's name", x.dusk(0, 3), 0);
        x.put(0, 1, 525);
        Checks.due("13 dusk: loss is one's name", x.dusk(0, 3), 0);
        x.put(0, 1, 526);
        Checks.due("13 dusk: loss is 1 less than one's name", x.dusk(0, 3), 1);
        x.put(0, 1, 999);
        Checks.due("13 dusk: loss of 999", x.dusk(0, 3), 999 - 525);
    }

    private static void dusks() {
        DrumOfGuilt x = Checks.people(0, 0, 0, 0);
        Checks.due("13 dusk: no wrongs: beats", x.dusk(0, 0), 0);
        Checks.due("13 dusk: no wrongs: who catch", x.dusk(0, 1), 0);
        Checks.due("13 dusk: no wrongs: loss", x.dusk(0, 2), 0);
        Checks.due("13 dusk: no wrongs: thought of", x.dusk(0, 3), 500);
        // Three wrongs of 0's; 1 saw three, 2 saw two, 3 saw one; one is half so heavy as to be struck for.
        x.wrong(1, 1, 2);
        x.wrong(1, 1, 6);
        x.wrong(3, 5, 12);
        x.wrong(1, 1, 2);
        Checks.law(x, "weight = 5", "10 * weight", "1");
        // 0 strikes once: 1 saw three, off by 2; 2 saw two, off by 1; 3 saw one, off by 0.
        Checks.due("13 dusk: beats", x.dusk(0, 0), 1);
        Checks.due("13 dusk: who catch", x.dusk(0, 1), 6);
        Checks.due("13 dusk: loss", x.dusk(0, 2), 10 + 50);
        Checks.due("13 dusk: thought of", x.dusk(0, 3), 500 - 1 - 60);
        Checks.due("13 dusk: the other doer's beats", x.dusk(1, 0), 1);
        Checks.due("13 dusk: nobody catches the other doer", x.dusk(1, 1), 0);
        Checks.due("13 dusk: the other doer is thought of", x.dusk(1, 3), 499);
        Checks.due("13 dusk: nobody", x.dusk(4, 0), -5);
        Checks.due("13 dusk: nobody below", x.dusk(-1, 0), -5);
        Checks.due("13 dusk: nobody is told first", x.dusk(4, 4), -5);
        Checks.due("13 dusk: what", x.dusk(0, 4), -7);
        Checks.due("13 dusk: what below", x.dusk(0, -1), -7);
        Checks.due("13 dusk: what is asked changes nothing", x.told(0, 1), 500);
    }

    private static void doubtsOfTheLastSeen() {
        DrumOfGuilt x = new DrumOfGuilt();
        x.person(0, 10);
        x.person(7, 20);
        x.person(0, 30);
        x.wrong(1, 2, 2);
        x.wrong(1, 3, 6);
        x.wrong(1, 9, 0);
        x.wrong(4, 8, 2);
        // 1, of pride 20 and more 7, saw the second one last of 0's; the third wasn't seen, the fourth isn't 0's.
        Checks.law(x, "0", "weight", "1");
        Checks.due("13 dusk: loss: the last that that one saw", x.dusk(0, 2), 3 + 3);
        Checks.law(x, "0", "pride", "1");
        Checks.due("13 dusk: loss: doubts are told of who catches", x.dusk(0, 2), 20 + 30);
        Checks.law(x, "0", "more", "1");
        Checks.due("13 dusk: loss: more of who catches", x.dusk(0, 2), 7);
        Checks.law(x, "0", "seen", "1");
        Checks.due("13 dusk: loss: by how many that wrong is seen", x.dusk(0, 2), 4);
        Checks.law(x, "pride < 15", "1", "1");
        Checks.due("13 dusk: beats: strokes are told of who strikes", x.dusk(0, 0), 3);
    }

    private static void strokesOfEachDoer() {
        DrumOfGuilt x = new DrumOfGuilt();
        x.person(0, 3);
        x.person(0, 7);
        x.person(14, 15);
        x.wrong(7, 1, 0);
        x.wrong(6, 1, 1);
        Checks.law(x, "pride", "1", "1");
        Checks.due("13 dusk: beats: one of three doers", x.dusk(0, 0), 3);
        Checks.due("13 dusk: beats: the second doer, twice", x.dusk(1, 0), 7 + 7);
        Checks.due("13 dusk: beats: the third doer, a child, twice", x.dusk(2, 0), 2 * (15 + 4));
    }

    private static void lossByTheLastOfOnes() {
        DrumOfGuilt x = Checks.people(0, 0, 0);
        x.wrong(1, 2, 2);
        x.wrong(1, 3, 2);
        x.wrong(1, 4, 4);
        x.wrong(4, 9, 3);
        Checks.law(x, "0", "weight", "1");
        Checks.due("13 dusk: loss: the last of one's own that each saw", x.dusk(0, 2), 3 + 4);
        x.amend(1);
        Checks.due("13 dusk: loss: the last that is left", x.dusk(0, 2), 2 + 4);
        x.wrong(1, 8, 6);
        Checks.due("13 dusk: loss: a later one", x.dusk(0, 2), 8 + 8);
    }

    /** 1, of pride 20, saw two: what is told of 1, not of another of that number. */
    private static void lossByWhoCatches() {
        DrumOfGuilt x = new DrumOfGuilt();
        x.person(0, 10);
        x.person(0, 20);
        x.person(0, 30);
        x.wrong(1, 2, 2);
        x.wrong(1, 2, 2);
        Checks.law(x, "0", "pride", "1");
        Checks.due("13 dusk: loss: told of who catches, by however many", x.dusk(0, 2), 20);
    }

    private static void bounds() {
        DrumOfGuilt x = Checks.people(0, 0);
        x.wrong(1, 1, 2);
        x.wrong(1, 1, 2);
        x.put(0, 1, 1);
        Checks.due("13 dusk: not below 0", x.dusk(0, 3), 0);
        x.put(0, 1, 2);
        Checks.due("13 dusk: just 0", x.dusk(0, 3), 0);
        x.put(0, 1, 3);
        Checks.due("13 dusk: just above 0", x.dusk(0, 3), 1);
        x.put(1, 1, 999);
        Checks.due("13 dusk: the most", x.dusk(1, 3), 999);
    }

    private static void towns() {
        DrumOfGuilt x = new DrumOfGuilt();
        Checks.due("14 town: there is nobody: together", x.town(0), 0);
        Checks.due("14 town: there is nobody: whose are most", x.town(1), -1);
        Checks.due("14 town: there is nobody: who have none", x.town(2), 0);
        Checks.due("14 town: there is nobody: who catch", x.town(3), 0);
        x = Checks.people(0, 0, 0, 0);
        Checks.due("14 town: no wrongs: together", x.town(0), 0);
        Checks.due("14 town: nobody has any", x.town(1), -1);
        Checks.due("14 town: who have none", x.town(2), 15);
        Checks.due("14 town: who catch", x.town(3), 0);
        x.wrong(2, 1, 1);
        x.wrong(6, 1, 0);
        x.wrong(4, 1, 0);
        Checks.due("14 town: together", x.town(0), 4);
        Checks.due("14 town: of like ones the first", x.town(1), 1);
        Checks.due("14 town: have none", x.town(2), 9);
        Checks.due("14 town: nobody is off", x.town(3), 0);
        x.wrong(4, 1, 0);
        Checks.due("14 town: the most", x.town(1), 2);
        Checks.law(x, "0", "1", "1");
        x.wrong(4, 1, 8);
        Checks.due("14 town: struck for none", x.town(1), -1);
        Checks.due("14 town: all have none", x.town(2), 15);
        Checks.due("14 town: who catch anybody", x.town(3), 9);
        x = Checks.people(0, 50, 0);
        x.wrong(1, 1, 4);
        Checks.due("14 town: 0 has most, one beat", x.town(1), 0);
        Checks.due("14 town: 0 has some", x.town(2), 6);
        Checks.law(x, "0", "7", "1");
        Checks.due("14 town: who catch 0", x.town(3), 4);
        x.wrong(4, 1, 1);
        Checks.due("13 dusk: 0 catches", x.dusk(2, 1), 1);
        Checks.due("13 dusk: 0 doubts", x.dusk(2, 2), 7);
        Checks.due("14 town: what", x.town(4), -2);
        Checks.due("14 town: what below", x.town(-1), -2);
    }

    /** One wrong among four: the last did it, and nobody else any. */
    private static void townOfFewWrongs() {
        DrumOfGuilt x = Checks.people(0, 0, 0, 0);
        x.wrong(8, 1, 4);
        Checks.due("14 town: the only one who has any is the last", x.town(1), 3);
        Checks.due("14 town: all but the last have none", x.town(2), 7);
        Checks.law(x, "0", "1", "1");
        Checks.due("14 town: who catches the last", x.town(3), 4);
    }

    private static void townOfTwoCaught() {
        DrumOfGuilt x = Checks.people(0, 0, 0);
        x.wrong(1, 5, 4);
        x.wrong(2, 4, 4);
        Checks.law(x, "weight", "1", "1");
        Checks.due("14 town: 5 are more than 4", x.town(1), 0);
        Checks.law(x, "0", "1", "1");
        Checks.due("14 town: who catches two catches anybody", x.town(3), 4);
        x.wrong(4, 4, 3);
        Checks.due("14 town: all three catch", x.town(3), 7);
        x = Checks.people(0, 0, 0);
        x.wrong(1, 1, 4);
        x.wrong(2, 5, 1);
        Checks.law(x, "weight < 2", "1", "1");
        Checks.due("14 town: each is caught by that one's own beats", x.town(3), 1);
        x.amend(1);
        x.wrong(4, 5, 2);
        Checks.due("14 town: also the last by that one's own", x.town(3), 2);
    }

    private static void nights() {
        DrumOfGuilt x = Checks.people(0, 13, 50);
        x.wrong(1, 4, 6);
        x.wrong(3, 4, 4);
        x.wrong(2, 4, 5);
        x.wrong(4, 4, 2);
        Checks.law(x, "day + shared", "20", "1");
        // Day 0: 0 strikes 1 + 2, 1 strikes (2 + 3) + (1 + 3), 2 strikes 1; nobody is off.
        Checks.due("15 night: beats of all", x.night(), 3 + 9 + 1);
        Checks.due("15 night: name of 0", x.told(0, 1), 497);
        Checks.due("15 night: name of 1", x.told(1, 1), 491);
        Checks.due("15 night: name of 2", x.told(2, 1), 499);
        Checks.due("15 night: no wrongs", x.count(1), 0);
        Checks.due("15 night: day", x.count(2), 1);
        x.wrong(1, 4, 6);
        Checks.due("15 night: day tells", x.dusk(0, 0), 2);
        Checks.law(x, "0", "20", "1");
        Checks.due("15 night: nobody strikes", x.night(), 0);
        Checks.due("15 night: 1 doubts 20, 2 doubts 21", x.told(0, 1), 497 - 41);
        Checks.due("15 night: the others stay", x.told(1, 1), 491);
        Checks.due("15 night: day 2", x.count(2), 2);
        x.wrong(4, 4, 3);
        x.put(2, 1, 0);
        x.night();
        Checks.due("15 night: no name is below 0", x.told(2, 1), 0);
    }

    /** 999 nights are more calls than the document promises of one object: the last day can't be seen otherwise. */
    private static DrumOfGuilt onTheLastDay() {
        DrumOfGuilt x = Checks.people(0, 13);
        for (int day = 0; day < 998; day++) {
            x.night();
        }
        Checks.due("15 night: day 998 may end", x.night(), 0);
        Checks.due("15 night: day 999", x.count(2), 999);
        x.wrong(1, 4, 2);
        return x;
    }

    private static void theLastNight() {
        DrumOfGuilt x = onTheLastDay();
        Checks.due("15 night: state: day is 999", x.night(), -3);
        Checks.due("15 night: state changes nothing", Made.allOf(x).equals(Made.allOf(onTheLastDay())) ? 1 : 0, 1);
    }

    private static void nightOfNobody() {
        DrumOfGuilt x = new DrumOfGuilt();
        Checks.due("15 night: of nobody", x.night(), 0);
        Checks.due("15 night: of nobody, day 1", x.count(2), 1);
        for (int day = 1; day < 400; day++) {
            x.night();
        }
        Checks.due("15 night: day 400", x.count(2), 400);
    }

    private static void nightOfTheLast() {
        DrumOfGuilt x = Checks.people(0, 0, 0, 0);
        x.wrong(8, 1, 4);
        Checks.due("15 night: the last strikes once", x.night(), 1);
        Checks.due("15 night: name of the last", x.told(3, 1), 499);
        Checks.due("15 night: name of who saw it", x.told(2, 1), 500);
    }

    /** Each does one that all others saw: what all lose is told of the evening as it was. */
    private static void nightOfAll() {
        DrumOfGuilt x = Checks.people(3, 54, 0);
        x.put(0, 0, 31);
        x.put(1, 1, 999);
        x.wrong(1, 4, 6);
        x.wrong(2, 4, 5);
        x.wrong(4, 4, 3);
        Checks.law(x, "0", "10", "1");
        Checks.due("15 night: an elder strikes for less weight than more", x.dusk(1, 0), 0);
        Checks.due("15 night: nobody strikes", x.night(), 0);
        Checks.due("15 night: 0 is caught by 1, who doubts 11, and by 2", x.told(0, 1), 500 - 21);
        Checks.due("15 night: 1 is caught by 0 and 2", x.told(1, 1), 999 - 20);
        Checks.due("15 night: 2 is caught by 0 and 1", x.told(2, 1), 500 - 21);
        Checks.due("15 night: all are there", x.count(0), 3);
        Checks.due("15 night: pride stays", x.told(0, 0), 31);
        Checks.due("15 night: kind stays", x.told(1, 2), 5);
        Checks.due("15 night: more stays", x.told(0, 3), 3);
        Checks.due("15 night: the law stays", x.count(4), 1);
        Checks.due("15 night: texts stay", x.count(3), 2);
        Checks.due("15 night: there are no wrongs", x.deed(0, 0), -5);
        Checks.due("15 night: the next has no wrongs", x.night(), 0);
        Checks.due("15 night: nobody loses then", x.told(0, 1), 479);
    }
}
