/** Promises 22 to 24: guess, likely, share. */
final class GuessTest {
    private static final long NO = DrumOfGuilt.NO;

    public static void main(String[] args) {
        all();
        Checks.finish("GuessTest");
    }

    static void all() {
        guessing();
        guessingOfTen();
        likelihood();
        sharing();
    }

    private static DrumOfGuilt fourWrongs() {
        DrumOfGuilt x = Checks.people(0, 12, 50);
        x.wrong(1, 2, 0);
        x.wrong(2, 3, 0);
        x.wrong(4, 5, 0);
        x.wrong(7, 2, 0);
        Checks.law(x, "weight", "1", "1");
        return x;
    }

    private static void guessing() {
        DrumOfGuilt x = Checks.people(0);
        Checks.due("22 guess: no wrongs, 0 beats", x.guess(0, 0, 0), 1);
        Checks.due("22 guess: the empty set", x.guess(0, 0, 1), 0);
        Checks.due("22 guess: no wrongs, 1 beat", x.guess(0, 1, 0), 0);
        Checks.due("22 guess: none", x.guess(0, 1, 1), -1);
        x = fourWrongs();
        // 0's strokes are 2, 3, 5, 2, whoever did them: 5 is 2 and 3 (twice), or 5.
        Checks.due("22 guess: 5", x.guess(0, 5, 0), 3);
        Checks.due("22 guess: 5, the least", x.guess(0, 5, 1), 3);
        Checks.due("22 guess: 2", x.guess(0, 2, 0), 2);
        Checks.due("22 guess: 2, the least", x.guess(0, 2, 1), 1);
        Checks.due("22 guess: 12", x.guess(0, 12, 0), 1);
        Checks.due("22 guess: 12, all", x.guess(0, 12, 1), 15);
        Checks.due("22 guess: 1", x.guess(0, 1, 0), 0);
        Checks.due("22 guess: 1, none", x.guess(0, 1, 1), -1);
        Checks.due("22 guess: 999", x.guess(0, 999, 0), 0);
        // 1, a child and more 2, strikes 4, 5, 7, 4; 2, an elder, 1 for each.
        Checks.due("22 guess: a child's 11", x.guess(1, 11, 0), 2);
        Checks.due("22 guess: a child's 11, the least", x.guess(1, 11, 1), 5);
        Checks.due("22 guess: an elder's 2", x.guess(2, 2, 0), 6);
        Checks.due("22 guess: an elder's 0", x.guess(2, 0, 0), 1);
        Checks.due("22 guess: 0 by none", x.guess(0, 0, 1), 0);
        Checks.due("22 guess: 999, none", x.guess(0, 999, 1), -1);
        Checks.due("22 guess: nobody", x.guess(3, 0, 0), -5);
        Checks.due("22 guess: nobody is told first", x.guess(-1, -1, 2), -5);
        Checks.due("22 guess: beats below", x.guess(0, -1, 0), -7);
        Checks.due("22 guess: beats above", x.guess(0, 1000, 0), -7);
        Checks.due("22 guess: what", x.guess(0, 0, 2), -7);
        Checks.due("22 guess: what below", x.guess(0, 0, -1), -7);
    }

    private static void guessingOfTen() {
        DrumOfGuilt x = Checks.people(0, 39);
        for (int k = 0; k < 10; k++) {
            x.wrong(1 + k % 2, 1, 0);
        }
        int[] sets = {1, 10, 45, 120, 210, 252, 210, 120, 45, 10, 1, 0};
        for (int beats = 0; beats < sets.length; beats++) {
            Checks.due("22 guess: of ten, " + beats, x.guess(0, beats, 0), sets[beats]);
            Checks.due("22 guess: of ten, the least, " + beats, x.guess(0, beats, 1), beats > 10 ? -1 : (1 << beats) - 1);
        }
        likely(x, 0, 5, 9, 1, 2);
        likely(x, 0, 4, 0, 2, 5);
        likely(x, 0, 10, 9, 1, 1);
        likely(x, 0, 0, 9, 0, 1);
        likely(x, 0, 11, 9, NO, NO);
        Checks.law(x, "20", "1", "1");
        Checks.due("22 guess: of ten, a saint's most", x.guess(1, 580, 0), 1);
        Checks.due("22 guess: of ten, a saint's most: all", x.guess(1, 580, 1), 1023);
        Checks.due("22 guess: of ten, a saint's one", x.guess(1, 58, 0), 10);
        Checks.law(x, "0", "1", "1");
        Checks.due("22 guess: of ten, none is struck for: all sets", x.guess(0, 0, 0), 1024);
        Checks.due("22 guess: of ten, none is struck for: the least", x.guess(0, 0, 1), 0);
        likely(x, 0, 0, 5, 1, 2);
    }

    private static void likely(DrumOfGuilt x, int p, int beats, int k, long above, long below) {
        String call = "23 likely: " + p + " " + beats + " " + k;
        Checks.due(call + " above", x.likely(p, beats, k, 0), above);
        Checks.due(call + " below", x.likely(p, beats, k, 1), below);
    }

    private static void likelihood() {
        DrumOfGuilt x = fourWrongs();
        likely(x, 0, 5, 0, 1, 3);
        likely(x, 0, 5, 1, 2, 3);
        likely(x, 0, 5, 2, 1, 3);
        likely(x, 0, 12, 2, 1, 1);
        likely(x, 0, 0, 0, 0, 1);
        likely(x, 2, 2, 0, 1, 2);
        // 2 is struck by the first or the last alone, 10 by the second and third and one of these.
        likely(x, 0, 2, 1, 0, 1);
        likely(x, 0, 10, 1, 1, 1);
        likely(x, 0, 10, 3, 1, 2);
        // A child's 11 is 4 and 7, or 7 and 4; of 0 it is none.
        likely(x, 1, 11, 0, 1, 2);
        likely(x, 1, 11, 1, 0, 1);
        likely(x, 1, 11, 2, 1, 1);
        likely(x, 2, 3, 1, 3, 4);
        likely(x, 0, 11, 0, NO, NO);
        likely(x, 0, 1, 0, NO, NO);
        likely(x, 0, 999, 0, NO, NO);
        likely(x, 0, -1, 0, NO, NO);
        likely(x, 0, 1000, 0, NO, NO);
        likely(x, 3, 5, 0, NO, NO);
        likely(x, -1, 5, 0, NO, NO);
        likely(x, 0, 5, 4, NO, NO);
        likely(x, 0, 5, -1, NO, NO);
        Checks.due("23 likely: part", x.likely(0, 5, 0, 2), NO);
        Checks.due("23 likely: part below", x.likely(0, 5, 0, -1), NO);
        likely(Checks.people(0), 0, 0, 0, NO, NO);
    }

    private static void share(DrumOfGuilt x, int p, long above, long below) {
        Checks.due("24 share: " + p + " above", x.share(p, 0), above);
        Checks.due("24 share: " + p + " below", x.share(p, 1), below);
    }

    private static void sharing() {
        DrumOfGuilt x = fourWrongs();
        // 0 strikes 2 + 2, 1 strikes 5 + 4, 2 strikes 1 + 1.
        share(x, 0, 4, 15);
        share(x, 1, 3, 5);
        share(x, 2, 2, 15);
        share(x, 3, NO, NO);
        share(x, -1, NO, NO);
        Checks.due("24 share: part", x.share(0, 2), NO);
        Checks.due("24 share: part below", x.share(0, -1), NO);
        Checks.law(x, "0", "1", "1");
        share(x, 0, 0, 1);
        x.amend(1);
        x.amend(2);
        // Only the elder strikes.
        share(x, 2, 1, 1);
        x.amend(1);
        share(x, 0, NO, NO);
        share(Checks.people(0), 0, NO, NO);
    }
}
