/** Promises 35 to 39: sheet, cell, copy, peopleBy, taken. */
final class HostTest {
    private static final int MIN = Integer.MIN_VALUE, MAX = Integer.MAX_VALUE;

    public static void main(String[] args) {
        all();
        Checks.finish("HostTest");
    }

    static void all() {
        sheets();
        sheetsOfSorts();
        fortyLaidAnew();
        cellsOfSorts();
        cellsOfAnEmptyRow();
        cells();
        copies();
        copiesAsTheyWere();
        peopleBySheets();
        peopleLeftOut();
        peopleUpToTheEnd();
        takenFor();
    }

    private static void sheets() {
        DrumOfGuilt x = Checks.people(0, 0);
        Checks.due("35 sheet: below", x.sheet(-1, 0, 1), -2);
        Checks.due("35 sheet: above", x.sheet(4, 0, 1), -2);
        Checks.due("35 sheet: sort below", x.sheet(0, -2, 1), -2);
        Checks.due("35 sheet: sort above", x.sheet(0, 3, 1), -2);
        Checks.due("35 sheet: n above", x.sheet(0, 0, 41), -2);
        Checks.due("35 sheet: n far above", x.sheet(0, 0, MAX), -2);
        Checks.due("35 sheet: n below", x.sheet(0, 0, -1), -14);
        Checks.due("35 sheet: n far below", x.sheet(0, 0, MIN), -14);
        Checks.due("35 sheet: sort is told ahead of n below", x.sheet(0, 3, -1), -2);
        Checks.due("35 sheet: refused, it stays missing", x.cell(0, 0, 0), -11);
        Checks.due("35 sheet: 40", x.sheet(3, 2, 40), 1);
        Checks.due("35 sheet: the 40th", x.cell(3, 39, 1), 1);
        Checks.due("35 sheet: no 41st", x.cell(3, 40, 1), -12);
        Checks.due("35 sheet: none", x.sheet(0, 1, 0), 1);
        Checks.due("35 sheet: there, but empty", x.cell(0, 0, 1), -12);
        Checks.tell(x, 0, 5, 5);
        Checks.due("35 sheet: refused", x.sheet(0, 2, 41), -2);
        Checks.due("35 sheet: refused, it stays", x.judge(0), 0);
        x.sheet(0, 2, 2);
        Checks.due("35 sheet: all 0", x.judge(0), -1);
        Checks.due("35 sheet: missing, n does not matter", x.sheet(0, -1, 1000), 1);
        Checks.due("35 sheet: missing", x.judge(0), -11);
        Checks.due("35 sheet: missing, n below does not matter", x.sheet(0, -1, MIN), 1);
        Checks.due("35 sheet: missing, but no such sheet", x.sheet(4, -1, 0), -2);
    }

    /** Sheets of like sorts can be copied, of unlike sorts not; a row laid anew is all 0. */
    private static void sheetsOfSorts() {
        for (int sort = 0; sort < 3; sort++) {
            for (int other = 0; other < 3; other++) {
                DrumOfGuilt x = new DrumOfGuilt();
                x.sheet(1, sort, 2);
                x.sheet(2, other, 2);
                String call = "35 sheet: of sort " + sort + ", and " + other;
                Checks.due(call, x.copy(1, 0, 2, 0, 2), sort == other ? 2 : -13);
                Checks.due(call + ", for people", x.peopleBy(1, other, 0, 1), sort == other ? 1 : -13);
            }
            DrumOfGuilt x = Checks.people(0, 0, 0);
            Checks.tellOf(x, 0, sort, 5, 6, 7);
            Checks.due("35 sheet: laid anew, sort " + sort, x.sheet(0, sort, 3), 1);
            for (int p = 0; p < 3; p++) {
                Checks.due("35 sheet: all 0, sort " + sort + ", " + p, x.judge(0), -1);
                Checks.due("35 sheet: a row of three, sort " + sort + ", " + p, x.cell(0, p, 0), 1);
            }
            Checks.due("35 sheet: no fourth, sort " + sort, x.cell(0, 3, 0), -12);
            Checks.tellOf(x, 0, sort, 5, 6, 7);
            x.sheet(0, -1, 3);
            x.sheet(0, sort, 3);
            Checks.due("35 sheet: all 0, though it was missing between, sort " + sort, x.judge(0), -1);
        }
        DrumOfGuilt x = new DrumOfGuilt();
        Checks.due("35 sheet: a missing one becomes missing", x.sheet(2, -1, 40), 1);
        Checks.due("35 sheet: n 40 of a missing one does not matter", x.cell(2, 0, 0), -11);
        Checks.due("35 sheet: bytes, 40", x.sheet(2, 0, 40), 1);
        Checks.due("35 sheet: shorts, 0", x.sheet(2, 1, 0), 1);
        Checks.due("35 sheet: ints, 1", x.sheet(2, 2, 1), 1);
    }

    /** Who comes by the last two numbers of forty comes by 0 and 0, not by what stood there ahead of the new row. */
    private static void fortyLaidAnew() {
        for (int sort = 0; sort < 3; sort++) {
            DrumOfGuilt x = new DrumOfGuilt();
            x.sheet(1, sort, 40);
            x.cell(1, 38, 17);
            x.cell(1, 39, 7);
            x.sheet(1, sort, 40);
            Checks.due("35 sheet: the last of forty can be read, sort " + sort, x.peopleBy(1, sort, 38, 1), 1);
            Checks.due("35 sheet: the 39th of forty is 0, sort " + sort, x.told(0, 2), 0);
            Checks.due("35 sheet: the 40th of forty is 0, sort " + sort, x.told(0, 0), 0);
        }
    }

    /** Who struck 0 is as a sheet tells where its number is 0; people come by a sheet as its numbers are. */
    private static void cellsOfSorts() {
        int[] given = {0, 127, 128, 255, 256, 300, 32767, 32768, 65535, 65536, 65540, MAX, MIN, -1, -128, -129, -32769};
        for (int v : given) {
            DrumOfGuilt none = Checks.people(0);
            Checks.tellOf(none, 0, 0, v);
            Checks.due("36 cell: a byte of " + v, none.judge(0), (byte) v == 0 ? -1 : 0);
            Checks.tellOf(none, 0, 1, v);
            Checks.due("36 cell: a short of " + v, none.judge(0), (short) v == 0 ? -1 : 0);
            Checks.tellOf(none, 0, 2, v);
            Checks.due("36 cell: an int of " + v, none.judge(0), v == 0 ? -1 : 0);
        }
        for (int high : new int[] {0, 256, 65536, 1 << 24, MIN, -256, -65536}) {
            DrumOfGuilt made = new DrumOfGuilt();
            for (int sort = 0; sort < 3; sort++) {
                Checks.tellOf(made, 0, sort, high + 47, high + 98);
                boolean kept = high == 0 || sort == 0 || sort == 1 && (short) high == 0;
                String call = "36 cell: 47 and 98 above " + high + ", sort " + sort;
                Checks.due(call, made.peopleBy(0, sort, 0, 1), kept ? 1 : 0);
                Checks.due(call + ": kind", made.told(made.count(0) - 1, 2), made.count(0) > 0 ? 4 : -5);
            }
        }
    }

    private static void cellsOfAnEmptyRow() {
        for (int sort = 0; sort < 3; sort++) {
            DrumOfGuilt x = new DrumOfGuilt();
            x.sheet(0, sort, 0);
            Checks.due("36 cell: an empty row has no place 0", x.cell(0, 0, 1), -12);
            x.sheet(0, sort, 40);
            for (int i = 0; i < 40; i++) {
                Checks.due("36 cell: of forty " + i, x.cell(0, i, i), 1);
            }
            Checks.due("36 cell: of forty no more", x.cell(0, 40, 1), -12);
        }
    }

    private static void cells() {
        DrumOfGuilt x = Checks.people(0, 0);
        Checks.due("36 cell: below", x.cell(-1, 0, 0), -2);
        Checks.due("36 cell: above", x.cell(4, 0, 0), -2);
        Checks.due("36 cell: missing", x.cell(0, -1, 0), -11);
        x.sheet(0, 2, 2);
        Checks.due("36 cell: i below", x.cell(0, -1, 0), -12);
        Checks.due("36 cell: i above", x.cell(0, 2, 0), -12);
        Checks.due("36 cell: i far above", x.cell(0, MAX, 0), -12);
        Checks.due("36 cell: i far below", x.cell(0, MIN, 0), -12);
        Checks.due("36 cell: becomes", x.cell(0, 1, 7), 1);
        Checks.due("36 cell: it is", x.judge(0), 1);
        Checks.due("36 cell: becomes 0", x.cell(0, 1, 0), 1);
        Checks.due("36 cell: it is 0", x.judge(0), -1);
        x.cell(0, 1, 256);
        Checks.due("36 cell: ints keep 256", x.judge(0), 1);
        x.sheet(0, 0, 2);
        x.cell(0, 1, 256);
        Checks.due("36 cell: bytes don't", x.judge(0), -1);
        x.sheet(0, 1, 2);
        x.cell(0, 1, 256);
        Checks.due("36 cell: shorts keep 256", x.judge(0), 1);
        x.cell(0, 1, 65536);
        Checks.due("36 cell: shorts don't keep 65536", x.judge(0), -1);
    }

    private static void copies() {
        DrumOfGuilt x = new DrumOfGuilt();
        Checks.due("37 copy: from below", x.copy(-1, 0, 0, 0, 0), -2);
        Checks.due("37 copy: from above", x.copy(4, 0, 0, 0, 0), -2);
        Checks.due("37 copy: to below", x.copy(0, 0, -1, 0, 0), -2);
        Checks.due("37 copy: to above", x.copy(0, 0, 4, 0, 0), -2);
        Checks.due("37 copy: both missing", x.copy(0, 0, 1, 0, 0), -11);
        x.sheet(0, 2, 5);
        Checks.due("37 copy: to missing", x.copy(0, 0, 1, 0, 1), -11);
        Checks.due("37 copy: from missing", x.copy(1, 0, 0, 0, 1), -11);
        x.sheet(1, 1, 5);
        Checks.due("37 copy: unlike sorts", x.copy(0, 0, 1, 0, 1), -13);
        Checks.due("37 copy: unlike sorts are told ahead of places", x.copy(0, -1, 1, 9, -1), -13);
        x.sheet(1, 2, 3);
        Checks.due("37 copy: i below", x.copy(0, -1, 1, 0, 1), -12);
        Checks.due("37 copy: j below", x.copy(0, 0, 1, -1, 1), -12);
        Checks.due("37 copy: n below", x.copy(0, 0, 1, 0, -1), -12);
        Checks.due("37 copy: more than there are", x.copy(1, 1, 0, 0, 3), -12);
        Checks.due("37 copy: more than have room", x.copy(0, 0, 1, 1, 3), -12);
        Checks.due("37 copy: i far above", x.copy(0, MAX, 1, 0, 1), -12);
        Checks.due("37 copy: n far above", x.copy(0, 1, 1, 0, MAX), -12);
        Checks.due("37 copy: all far above", x.copy(0, MAX, 1, MAX, MAX), -12);
        Checks.due("37 copy: all far below", x.copy(0, MIN, 1, MIN, MIN), -12);
        Checks.due("37 copy: none, at the end", x.copy(0, 5, 1, 3, 0), 0);
        Checks.due("37 copy: none, past the end", x.copy(0, 6, 1, 0, 0), -12);
        Checks.due("37 copy: none, past the other's end", x.copy(0, 0, 1, 4, 0), -12);
        Checks.due("37 copy: all", x.copy(0, 2, 1, 0, 3), 3);
    }

    private static void copiesAsTheyWere() {
        DrumOfGuilt x = Checks.people(1, 12, 13, 14, 15);
        Checks.law(x, "0", "1", "1");
        for (int p = 0; p < 5; p++) {
            x.wrong(1 << p, 1, 0);
        }
        // Beats are 0, 2, 3, 4, 5.
        Checks.tell(x, 0, 2, 3, 4, 5, 0);
        Checks.due("37 copy: to its own later place", x.copy(0, 0, 0, 1, 4), 4);
        x.cell(0, 0, 0);
        Checks.due("37 copy: as they were", x.judge(0), -1);
        Checks.tell(x, 0, 7, 0, 2, 3, 4);
        Checks.due("37 copy: to its own earlier place", x.copy(0, 1, 0, 0, 4), 4);
        x.cell(0, 4, 5);
        Checks.due("37 copy: as they were, too", x.judge(0), -1);
        Checks.tell(x, 1, 9, 9, 0, 0, 9);
        Checks.due("37 copy: to another", x.copy(0, 2, 1, 2, 2), 2);
        Checks.due("37 copy: what stood ahead stays", x.judge(1), 0);
        x.copy(0, 0, 1, 0, 2);
        Checks.due("37 copy: what stands behind stays", x.judge(1), 4);
        Checks.due("37 copy: where it came from stays", x.judge(0), -1);
        Checks.due("37 copy: a refused one changes nothing", x.copy(1, 0, 0, 3, 3), -12);
        Checks.due("37 copy: nothing", x.judge(0), -1);
    }

    private static void peopleBySheets() {
        DrumOfGuilt x = new DrumOfGuilt();
        Checks.due("38 peopleBy: below", x.peopleBy(-1, 2, 0, 1), -2);
        Checks.due("38 peopleBy: above", x.peopleBy(4, 2, 0, 1), -2);
        Checks.due("38 peopleBy: sort below", x.peopleBy(0, -1, 0, 1), -2);
        Checks.due("38 peopleBy: sort above", x.peopleBy(0, 3, 0, 1), -2);
        Checks.due("38 peopleBy: n below", x.peopleBy(0, 2, 0, -1), -2);
        Checks.due("38 peopleBy: n above", x.peopleBy(0, 2, 0, 7), -2);
        Checks.due("38 peopleBy: missing", x.peopleBy(0, 2, -1, 1), -11);
        Checks.tell(x, 0, 99, 12, 34, 60, 1, -1, 1, 47, 56, 0);
        Checks.due("38 peopleBy: another sort", x.peopleBy(0, 1, -1, 1), -13);
        Checks.due("38 peopleBy: place below", x.peopleBy(0, 2, -1, 1), -12);
        Checks.due("38 peopleBy: place far below", x.peopleBy(0, 2, MIN, 6), -12);
        Checks.due("38 peopleBy: place far above", x.peopleBy(0, 2, MAX, 6), -12);
        Checks.due("38 peopleBy: none", x.peopleBy(0, 2, 0, 0), 0);
        Checks.due("38 peopleBy: nobody came", x.count(0), 0);
        Checks.due("38 peopleBy: others are left out", x.peopleBy(0, 2, 1, 4), 2);
        Checks.due("38 peopleBy: two came", x.count(0), 2);
        Checks.due("38 peopleBy: more of the first", x.told(0, 3), 2);
        Checks.due("38 peopleBy: pride of the first", x.told(0, 0), 34);
        Checks.due("38 peopleBy: kind of the second", x.told(1, 2), 4);
        Checks.due("38 peopleBy: pride of the second", x.told(1, 0), 56);
        Checks.due("38 peopleBy: half of the last lies outside", x.peopleBy(0, 2, 7, 2), -12);
        Checks.due("38 peopleBy: what stood ahead came", x.count(0), 3);
        Checks.due("38 peopleBy: it came so", x.told(2, 0), 56);
        Checks.tellOf(x, 1, 0, 0, 1, 0, 2, 0, 3, 0, 4);
        Checks.due("38 peopleBy: bytes; one has no room", x.peopleBy(1, 0, 0, 4), 3);
        Checks.due("38 peopleBy: full", x.count(0), 6);
        Checks.due("38 peopleBy: full, and outside", x.peopleBy(1, 0, 6, 2), -12);
        Checks.due("38 peopleBy: full, none comes", x.peopleBy(1, 0, 0, 4), 0);
    }

    private static void peopleLeftOut() {
        int[][] pairs = {{59, 99}, {60, 0}, {0, 100}, {-1, 0}, {0, -1}, {0, 0}};
        for (int[] pair : pairs) {
            DrumOfGuilt x = new DrumOfGuilt();
            boolean comes = pair == pairs[0] || pair == pairs[5];
            for (int sort = 0; sort < 3; sort++) {
                Checks.tellOf(x, 0, sort, 12, 34, pair[0], pair[1], 15, 60);
                x.image();
                String call = "38 peopleBy: " + pair[0] + ", " + pair[1] + " between two, sort " + sort;
                int before = x.count(0);
                Checks.due(call, x.peopleBy(0, sort, 0, 3), comes ? 3 : 2);
                Checks.due(call + ": the last comes, its more", x.told(before + (comes ? 2 : 1), 3), 5);
                x.back();
            }
        }
        DrumOfGuilt x = Checks.people(0, 0, 0, 0);
        Checks.tell(x, 0, 11, 1, 60, 1, 22, 2, 33, 3, 44, 4, 55, 5);
        Checks.due("38 peopleBy: six, one left out, three have no room", x.peopleBy(0, 2, 0, 6), 2);
        Checks.due("38 peopleBy: the first of them came", x.told(4, 2), 1);
        Checks.due("38 peopleBy: the third of them came", x.told(5, 2), 2);
    }

    private static void peopleUpToTheEnd() {
        DrumOfGuilt x = new DrumOfGuilt();
        x.sheet(0, 1, 40);
        for (int i = 0; i < 6; i++) {
            x.cell(0, 28 + 2 * i, 10 * i + 9);
            x.cell(0, 29 + 2 * i, 99 - i);
        }
        Checks.due("38 peopleBy: six, up to the last place", x.peopleBy(0, 1, 28, 6), 6);
        for (int p = 0; p < 6; p++) {
            Checks.due("38 peopleBy: kind of " + p + ", of its own pair", x.told(p, 2), p);
            Checks.due("38 peopleBy: more of " + p + ", of its own pair", x.told(p, 3), 9);
            Checks.due("38 peopleBy: pride of " + p + ", of its own pair", x.told(p, 0), 99 - p);
            Checks.due("38 peopleBy: name of " + p + ", as one comes", x.told(p, 1), 500);
        }
        Checks.due("38 peopleBy: full, the last pair is half outside", x.peopleBy(0, 1, 29, 6), -12);
        x = new DrumOfGuilt();
        x.sheet(0, 0, 5);
        Checks.due("38 peopleBy: the third pair is half outside", x.peopleBy(0, 0, 0, 3), -12);
        Checks.due("38 peopleBy: two stood ahead and came", x.count(0), 2);
        Checks.due("38 peopleBy: from 1 on two", x.peopleBy(0, 0, 1, 2), 2);
        Checks.due("38 peopleBy: none, at the end", x.peopleBy(0, 0, 5, 0), 0);
        Checks.due("38 peopleBy: none: no place is looked at, above", x.peopleBy(0, 0, MAX, 0), 0);
        Checks.due("38 peopleBy: none: no place is looked at, below", x.peopleBy(0, 0, -1, 0), 0);
        Checks.due("38 peopleBy: from the end on", x.peopleBy(0, 0, 5, 1), -12);
        Checks.due("38 peopleBy: four came", x.count(0), 4);
    }

    private static void takenFor() {
        DrumOfGuilt x = Checks.people(0, 10, 20, 30, 40, 50);
        x.wrong(1, 7, 0);
        x.wrong(2, 9, 0);
        boolean[][] isOne = {
            {true, false, false, false, false, false},
            {true, true, false, false, false, false},
            {true, false, true, false, false, false},
            {true, true, false, true, false, false},
            {true, false, true, false, true, false},
            {true, false, false, false, false, true},
        };
        for (int p = 0; p < 6; p++) {
            for (int kind = 0; kind < 6; kind++) {
                String call = "39 taken: " + p + " for " + kind;
                Checks.due(call, x.taken(p, kind), isOne[p][kind] ? p : -13);
            }
            Checks.due("39 taken: one for a wrong", x.taken(p, 6), -13);
            Checks.due("39 taken: a wrong for one", x.taken(6, p), -13);
        }
        Checks.due("39 taken: a wrong", x.taken(6, 6), 7);
        Checks.due("39 taken: the second wrong", x.taken(7, 6), 9);
        Checks.due("39 taken: none such", x.taken(8, 6), -11);
        Checks.due("39 taken: the last place", x.taken(15, 6), -11);
        Checks.due("39 taken: none such is told ahead", x.taken(15, 0), -11);
        Checks.due("39 taken: outside", x.taken(16, 0), -12);
        Checks.due("39 taken: outside below", x.taken(-1, 0), -12);
        Checks.due("39 taken: far outside", x.taken(MIN, 6), -12);
        Checks.due("39 taken: kind", x.taken(0, 7), -2);
        Checks.due("39 taken: kind below", x.taken(0, -1), -2);
        Checks.due("39 taken: kind is told first", x.taken(99, 7), -2);
        Checks.due("39 taken: nobody", Checks.people(0).taken(1, 0), -11);
        for (int k = 2; k < 10; k++) {
            x.wrong(1, 1 + (k + 3) % 9, 0);
            Checks.due("39 taken: wrong " + k, x.taken(6 + k, 6), 1 + (k + 3) % 9);
            Checks.due("39 taken: wrong " + k + " for one", x.taken(6 + k, 0), -13);
        }
        x = Checks.people(0);
        Checks.due("39 taken: one alone", x.taken(0, 0), 0);
        for (int i = 1; i < 16; i++) {
            Checks.due("39 taken: place " + i + " is empty", x.taken(i, i % 7), -11);
        }
    }
}
