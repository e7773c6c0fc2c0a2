import java.util.ArrayList;
import java.util.List;

/** What the tests have in common: answers compared and counted, texts fed, sheets filled. */
final class Checks {
    private static int made = 0;
    private static final List<String> OTHERWISE = new ArrayList<>();

    private Checks() {
    }

    static void due(String call, long got, long want) {
        made++;
        if (got != want) {
            OTHERWISE.add(call + " answered " + got + ", due is " + want);
        }
    }

    /** The calls, told as due() was, whose answer was not the one that is due. */
    static List<String> otherwise() {
        return OTHERWISE;
    }

    /** Tells how it went, and ends the program: with exit code 1 if an answer was not as due. */
    static void finish(String test) {
        OTHERWISE.forEach(System.out::println);
        System.out.println(test + ": " + made + " answers, " + OTHERWISE.size() + " not as due");
        if (!OTHERWISE.isEmpty() || made == 0) {
            System.exit(1);
        }
    }

    /** Feeds a text byte by byte: the last answer of feed(). */
    static int feed(DrumOfGuilt x, String text) {
        int answer = 0;
        for (int i = 0; i < text.length(); i++) {
            answer = x.feed(1, text.charAt(i), 0, 0, 0, 0);
        }
        return answer;
    }

    /** Feeds a text and reads it: the answer of text(). */
    static int read(DrumOfGuilt x, String text) {
        feed(x, text);
        return x.text();
    }

    /** Feeds a text, reads it and makes it the law. */
    static void law(DrumOfGuilt x, String text) {
        int t = read(x, text);
        due("7 text: " + text + " is one", t > 0 ? 1 : 0, 1);
        due("8 force: " + text + " becomes the law", x.force(t) >= 0 ? 1 : 0, 1);
    }

    static void law(DrumOfGuilt x, String strokes, String doubts, String pays) {
        law(x, "strokes " + strokes + ";doubts " + doubts + ";pays " + pays + ";");
    }

    /** A new object with people of those kinds (10 times the kind, and more), each with pride 50. */
    static DrumOfGuilt people(int... kindsMore) {
        DrumOfGuilt x = new DrumOfGuilt();
        for (int kindMore : kindsMore) {
            x.person(kindMore, 50);
        }
        return x;
    }

    /** A sheet becomes a row of ints with those numbers. */
    static void tell(DrumOfGuilt x, int s, int... numbers) {
        tellOf(x, s, 2, numbers);
    }

    static void tellOf(DrumOfGuilt x, int s, int sort, int... numbers) {
        x.sheet(s, sort, numbers.length);
        for (int i = 0; i < numbers.length; i++) {
            x.cell(s, i, numbers[i]);
        }
    }

    /** Those places as bits. */
    static int bits(int... places) {
        int bits = 0;
        for (int place : places) {
            bits |= 1 << place;
        }
        return bits;
    }
}
