import java.util.ArrayList;
import java.util.List;

/** Objects that hold something of all there is, and all that can be asked of an object, as a list of lines. */
final class Made {
    private static final String TEXT = "strokes weight;doubts 9;pays 1;";

    private Made() {
    }

    static DrumOfGuilt bare() {
        return new DrumOfGuilt();
    }

    /** Five people, six wrongs, three texts and one on the tape, an image of two people, sheets of all sorts. */
    static DrumOfGuilt rich() {
        DrumOfGuilt x = new DrumOfGuilt();
        x.person(3, 20);
        x.person(12, 30);
        x.wrong(1, 4, 2);
        feed(x, TEXT);
        x.text();
        feed(x, "strokes 1+more;doubts seen;pays 2;");
        x.text();
        x.force(1);
        x.put(1, 1, 700);
        x.image();
        x.night();
        x.person(25, 40);
        x.person(31, 50);
        x.person(54, 60);
        x.put(0, 0, 21);
        x.put(2, 1, 300);
        x.wrong(1, 3, 22);
        x.wrong(6, 5, 1);
        x.wrong(8, 1, 16);
        x.wrong(16, 9, 15);
        x.wrong(2, 2, 29);
        x.wrong(3, 7, 24);
        sheets(x);
        feed(x, "strokes 3;doubts weight;pays more;");
        return x;
    }

    /** Six people, ten wrongs, six texts and 160 bytes, an image of two people, sheets of all sorts. */
    static DrumOfGuilt full() {
        DrumOfGuilt x = new DrumOfGuilt();
        x.person(3, 20);
        x.person(45, 30);
        x.image();
        x.night();
        for (int p = 2; p < 6; p++) {
            x.person(10 * p - 7, 10 * p);
        }
        for (int k = 0; k < 10; k++) {
            x.wrong(1 << k % 6, 1 + k % 9, 42 & ~(1 << k % 6));
        }
        for (int t = 1; t < 6; t++) {
            feed(x, "strokes " + t + ";doubts 1;pays 1;");
            x.text();
        }
        x.force(3);
        sheets(x);
        for (int i = 0; i < 32; i++) {
            x.feed(5, ' ', '1', '2', '3', 'z');
        }
        return x;
    }

    /** Sheet 0 tells of the evening, 1 (ints) and 3 (bytes) tell of four people each, 2 is missing. */
    private static void sheets(DrumOfGuilt x) {
        x.film(0);
        Checks.tellOf(x, 1, 2, 11, 1, 22, 2, 33, 3, 44, 4);
        Checks.tellOf(x, 3, 0, 5, 95, 16, 96, 27, 97, 38, 98);
    }

    private static void feed(DrumOfGuilt x, String text) {
        for (int i = 0; i < text.length(); i += 5) {
            int n = Math.min(5, text.length() - i);
            String five = (text.substring(i) + "     ").substring(0, 5);
            x.feed(n, five.charAt(0), five.charAt(1), five.charAt(2), five.charAt(3), five.charAt(4));
        }
    }

    /** All that an object tells: as it is, as its image is, of its texts, its tape, its sheets. It is used up then. */
    static List<String> allOf(DrumOfGuilt x) {
        List<String> all = new ArrayList<>();
        evening(all, "now: ", x);
        for (int t = 0; t < 6; t++) {
            all.add("text " + t + ": " + x.force(t) + " " + x.asks(0, 1, 0) + " " + x.asks(1, 1, 0) + " " + x.asks(2, 1, 0));
        }
        all.add("back: " + x.back());
        evening(all, "image: ", x);
        int t = x.text();
        all.add("tape: " + t + " " + x.force(t) + " " + x.asks(0, 1, 0) + " " + x.asks(1, 1, 0) + " " + x.asks(2, 1, 0));
        peopleOf(all, x, 1, 2);
        x.back();
        peopleOf(all, x, 3, 0);
        return all;
    }

    private static void evening(List<String> all, String of, DrumOfGuilt x) {
        for (int what = 0; what < 6; what++) {
            all.add(of + "count " + what + ": " + x.count(what));
        }
        for (int p = 0; p < x.count(0); p++) {
            for (int what = 0; what < 6; what++) {
                all.add(of + "told " + p + " " + what + ": " + x.told(p, what));
            }
            all.add(of + "asks " + p + ": " + x.asks(0, p, 0) + " " + x.asks(1, p, 0) + " " + x.asks(2, p, 0));
            all.add(of + "kinds " + p + ": " + x.kinds(0, p, 0));
        }
        for (int k = 0; k < x.count(1); k++) {
            all.add(of + "deed " + k + ": " + x.deed(k, 0) + " " + x.deed(k, 1) + " " + x.deed(k, 2));
        }
        for (int i = 0; i < 4; i++) {
            all.add(of + "town " + i + ": " + x.town(i));
            all.add(of + "judge " + i + ": " + x.judge(i));
        }
    }

    /** What a sheet holds is seen by the people that come by it. */
    private static void peopleOf(List<String> all, DrumOfGuilt x, int s, int sort) {
        all.add("sheet " + s + ": " + x.peopleBy(s, sort, 0, 4));
        for (int p = 0; p < x.count(0); p++) {
            all.add("sheet " + s + ", one: " + x.told(p, 0) + " " + x.told(p, 2) + " " + x.told(p, 3));
        }
    }
}
