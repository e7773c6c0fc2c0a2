/** Promises 6 to 9: feed, text, force, asks; and how a text is read and what it says. */
final class LawTest {
    private static final String TAIL = ";doubts 1;pays 1;";

    public static void main(String[] args) {
        all();
        Checks.finish("LawTest");
    }

    static void all() {
        feeding();
        reading();
        faults();
        openOnes();
        fullTexts();
        longTexts();
        readingAfterAFault();
        forcing();
        asking();
        askingOfAnybody();
        askingOfEach();
        bounds();
        expressions();
    }

    private static void feeding() {
        DrumOfGuilt x = new DrumOfGuilt();
        Checks.due("6 feed: n 0", x.feed(0, 1, 1, 1, 1, 1), -2);
        Checks.due("6 feed: n 6", x.feed(6, 1, 1, 1, 1, 1), -2);
        Checks.due("6 feed: a below", x.feed(5, -1, 1, 1, 1, 1), -2);
        Checks.due("6 feed: b above", x.feed(5, 1, 256, 1, 1, 1), -2);
        Checks.due("6 feed: c below", x.feed(5, 1, 1, -1, 1, 1), -2);
        Checks.due("6 feed: d above", x.feed(5, 1, 1, 1, 256, 1), -2);
        Checks.due("6 feed: e of no need, above", x.feed(1, 1, 1, 1, 1, 256), -2);
        Checks.due("6 feed: nothing came", x.count(5), 0);
        Checks.due("6 feed: three", x.feed(3, 0, 255, 7, 8, 9), 3);
        Checks.due("6 feed: five", x.feed(5, 0, 255, 7, 8, 9), 8);
        for (int i = 0; i < 30; i++) {
            x.feed(5, 32, 32, 32, 32, 32);
        }
        Checks.due("6 feed: 158", x.count(5), 158);
        Checks.due("6 feed: bad is told ahead of full", x.feed(5, 1, 1, 1, 1, 256), -2);
        Checks.due("6 feed: not all have room", x.feed(3, 1, 1, 1, 1, 1), -4);
        Checks.due("6 feed: none came", x.count(5), 158);
        Checks.due("6 feed: just room", x.feed(2, 1, 1, 1, 1, 1), 160);
        Checks.due("6 feed: full", x.feed(1, 1, 1, 1, 1, 1), -4);

        x = Checks.people(0);
        x.wrong(1, 4, 0);
        Checks.feed(x, "strokes ");
        x.feed(4, '1', '2', ';', 'd', 'x');
        Checks.feed(x, "oubts 3;pays 4;");
        Checks.due("6 feed: the bytes come in their order", x.text(), 1);
        x.force(1);
        Checks.due("6 feed: as they were fed", x.asks(0, 0, 0), 12);
    }

    private static void reading() {
        DrumOfGuilt x = new DrumOfGuilt();
        Checks.due("7 text: first", Checks.read(x, "strokes 2;doubts 3;pays 4;"), 1);
        Checks.due("7 text: the tape is empty", x.count(5), 0);
        Checks.due("7 text: counted", x.count(3), 2);
        Checks.due("7 text: not the law yet", x.count(4), 0);
        Checks.due("7 text: a fault", Checks.read(x, "strokes 2;doubts 3;pay 4;"), -100 - 19);
        Checks.due("7 text: by a fault, too, the tape is empty", x.count(5), 0);
        Checks.due("7 text: by a fault none comes", x.count(3), 2);
        Checks.due("7 text: second", Checks.read(x, "\nstrokes\n2\n;doubts 3 ; pays(4) ; \n"), 2);
    }

    private static void fault(String text, int place) {
        Checks.due("7 text: " + text.replace('\n', '/'), Checks.read(new DrumOfGuilt(), text), -100 - place);
    }

    private static void stands(String text) {
        Checks.due("7 text: " + text.replace('\n', '/'), Checks.read(new DrumOfGuilt(), text), 1);
    }

    private static void faults() {
        fault("", 0);
        fault("  \n", 3);
        fault("strokes", 7);
        fault("strokes  ", 9);
        fault("strokes 1 ;doubts 1;pays 1", 26);
        fault("strokes 1 ;doubts 1;pays 1 ", 27);
        fault("strokes 1 ;doubts 1;", 20);
        fault("strokes 1 ;doubts 1;pays 1;;", 27);
        fault("strokes 1 ;doubts 1;pays 1; 7", 28);
        fault("strokes 1 ;doubts 1;pays 1; A", 28);
        fault("doubts 1;", 0);
        fault("strokes 1;pays 1;doubts 1;", 10);
        fault("strokes ;", 8);
        fault("strokes 1 1;", 10);
        fault("strokes strokes;", 8);
        fault("strokes or 1;", 8);
        fault("strokes 1 or;", 12);
        fault("strokes 1 and;", 13);
        fault("strokes 1 or or 1;", 13);
        fault("strokes 1 not 1;", 10);
        fault("strokes 1 + not 1;", 12);
        fault("strokes 1 * not 1;", 12);
        fault("strokes - not 1;", 10);
        fault("strokes 1 < not 1;", 12);
        fault("strokes + 1;", 8);
        fault("strokes 1 + + 1;", 12);
        fault("strokes 1 < 2 < 3;", 14);
        fault("strokes 1 = 2 < 3;", 14);
        fault("strokes 1 < 2 = 3;", 14);
        fault("strokes < 2;", 8);
        fault("strokes 1 <;", 11);
        fault("strokes (1;", 10);
        fault("strokes 1);", 9);
        fault("strokes ();", 9);
        fault("strokes (1 or);", 13);
        fault("strokes 2(3);", 9);
        fault("strokes weight day;", 15);
        fault("strokes weights;", 8);
        fault("strokes weightz;", 8);
        fault("strokes wait;", 8);
        fault("strokes keen;", 8);
        fault("strokes seem;", 8);
        fault("strokes orday;", 8);
        fault("strokes 1 xor 2;", 10);
        fault("strokes 12345;", 8);
        fault("strokes 00001;", 8);
        fault("strokes 1 12345;", 10);
        fault("strokes A;", 8);
        fault("strokes 1\t;", 9);
        fault("strokes 1 > 2;", 10);
        fault("strokes 1 / 2;", 10);
        fault("strokes 1" + (char) 160 + ";", 9);
        fault("strokes 1" + (char) 0 + ";", 9);
        fault("strokes `;", 8);
        fault("strokes {;", 8);
        fault("strokes :;", 8);
        fault("Strokes 1;", 0);
        fault("strokes1 ;doubts1 ;pays1 ,", 25);
        bytesThatBeginNone();
        wordsAndNumbersEnd();
        theFirstFault();
        stands("strokes1;doubts2;pays3;");
        stands("strokes 9999;doubts 0000;pays 0001;");
        stands("strokes 1or 2and 3;doubts not not 1;pays-1;");
        stands("strokes(1<2)<3;doubts not 1<2;pays 1- -1;");
        stands("strokes 1<2 and 3=4 or not 5;doubts weight+shared-seen*day;pays pride*more;");
    }

    private static void bytesThatBeginNone() {
        for (int value = 0; value < 256; value++) {
            boolean letter = value >= 'a' && value <= 'z';
            boolean digit = value >= '0' && value <= '9';
            if (!letter && !digit && " \n();+-*<=".indexOf(value) < 0) {
                fault("strokes " + (char) value + ";", 8);
                fault("strokes 1" + (char) value + ";", 9);
                fault("strokes" + (char) value + "1;", 7);
                fault("strokes 1;doubts 1;pays 1;" + (char) value, 26);
            }
        }
    }

    /** A letter is a .. z alone, a digit 0 .. 9: what stands next to these ends a word, a number. */
    private static void wordsAndNumbersEnd() {
        fault("strokes weight`;", 14);
        fault("strokes weight{;", 14);
        fault("strokes weightA;", 14);
        fault("strokes weightZ;", 14);
        fault("strokes weight@;", 14);
        fault("strokes weight[;", 14);
        fault("strokes 1/2;", 9);
        fault("strokes 1:2;", 9);
        fault("strokes 1a;", 9);
        fault("strokes a1;", 8);
        fault("str okes 1;", 0);
        fault("strokes 1 2;", 10);
        fault("strokes we ight;", 8);
        fault("strokes 123 45;", 12);
        fault("strokes az;", 8);
        fault("strokes zzz;", 8);
    }

    private static void theFirstFault() {
        fault("strokes 1 2 ?;", 10);
        fault("strokes 1 2 12345;", 10);
        fault("strokes 1 2 weights;", 10);
        fault("1 strokes A", 0);
        fault("strokes A 1 1;", 8);
        fault("strokes 12345 1 A;", 8);
        fault("strokes ((((((1 ? 12345", 13);
        fault("strokes 1 2", 10);
    }

    private static void openOnes() {
        stands("strokes (((((1)))))" + TAIL);
        fault("strokes ((((((1))))))" + TAIL, 13);
        stands("strokes -----1" + TAIL);
        fault("strokes ------1" + TAIL, 13);
        stands("strokes not not not not not 1" + TAIL);
        fault("strokes not not not not not not 1" + TAIL, 28);
        stands("strokes not(-(-1))" + TAIL);
        stands("strokes not(-(not 1))" + TAIL);
        fault("strokes not(-(not -1))" + TAIL, 18);
        fault("strokes not(-(not (1)))" + TAIL, 18);
        fault("strokes not(-(not not 1))" + TAIL, 18);
        fault("strokes -----(1)" + TAIL, 13);
        fault("strokes (((((not 1)))))" + TAIL, 13);
        fault("strokes (((((-1)))))" + TAIL, 13);
        // Each of these is closed ahead of the next.
        stands("strokes -1+-1*-1--1<-1+-1*-1" + TAIL);
        stands("strokes not 1 and not 1 and not 1 or not 1 or not 1 or not 1" + TAIL);
        stands("strokes (1)+(1)*(1)-(1)<(1)+(1)+(1)" + TAIL);
        stands("strokes ((((1)+(1)*(1)-(1))))" + TAIL);
        stands("strokes not 1 and not 1 and not 1 and not 1 and not 1 and not 1 and not 1" + TAIL);
        stands("strokes not 1 or not 1 or not 1 or not 1 or not 1 or not 1 or not 1" + TAIL);
        stands("strokes -1*-1*-1*-1*-1*-1*-1" + TAIL);
        stands("strokes -1+-1+-1+-1+-1+-1+-1" + TAIL);
        stands("strokes (1)*(1)*(1)*(1)*(1)*(1)*(1)" + TAIL);
        stands("strokes (((((1)))))+(((((1)))))*(((((1)))))<(((((1))))) and (((((1)))))" + TAIL);
        stands("strokes not 1 and (((((1)))))" + TAIL);
        stands("strokes not 1 or -----1" + TAIL);
        stands("strokes -1*(((((1)))))" + TAIL);
        stands("strokes -----1<-----1" + TAIL);
        stands("strokes 1;doubts (((((1)))));pays -----1;");
        // A not stays open over all of its comparison, also over the second sum.
        stands("strokes not 1 < ((((1))))" + TAIL);
        fault("strokes not 1 < (((((1)))))" + TAIL, 20);
        // A minus ahead of two is none of these.
        stands("strokes (((((1-1)))))" + TAIL);
        openAheadOfSeconds();
    }

    /** What is open ahead of a sign is still open behind it. */
    private static void openAheadOfSeconds() {
        for (String sign : new String[] {" or ", " and ", "<", "=", "+", "-", "*"}) {
            String four = "strokes ((((1" + sign;
            stands(four + "(1)))))" + TAIL);
            stands(four + "-1))))" + TAIL);
            String five = "strokes (((((1" + sign;
            fault(five + "(1))))))" + TAIL, five.length());
            fault(five + "-1)))))" + TAIL, five.length());
            fault(five + "1" + sign + "(1))))))" + TAIL, (five + "1" + sign).length() - (sign.matches("[<=]") ? 1 : 0));
        }
        stands("strokes ((((1 or not 1))))" + TAIL);
        stands("strokes ((((1 and not 1))))" + TAIL);
        fault("strokes (((((1 or not 1)))))" + TAIL, 18);
        fault("strokes (((((1 and not 1)))))" + TAIL, 19);
        fault("strokes not not not not not 1 < (1)" + TAIL, 32);
    }

    private static void fullTexts() {
        DrumOfGuilt x = new DrumOfGuilt();
        for (int t = 1; t < 6; t++) {
            Checks.due("7 text: number", Checks.read(x, "strokes " + t + TAIL), t);
        }
        Checks.feed(x, "?");
        Checks.due("7 text: full is told ahead of the fault", x.text(), -4);
        Checks.due("7 text: full, the tape stays", x.count(5), 1);
        Checks.due("7 text: six", x.count(3), 6);
        x = new DrumOfGuilt();
        for (int t = 1; t < 6; t++) {
            Checks.read(x, "strokes ?");
            Checks.due("7 text: faults take no number", Checks.read(x, "strokes " + t + TAIL), t);
        }
        Checks.due("7 text: full, of a text that stands", Checks.read(x, "strokes 1" + TAIL), -4);
        Checks.due("7 text: full, all its bytes stay", x.count(5), 9 + TAIL.length());
        Checks.due("7 text: full again", x.text(), -4);
    }

    private static void longTexts() {
        String text = "strokes 1;doubts 1;pays 1;";
        stands(" ".repeat(160 - text.length()) + text);
        stands(text + "\n".repeat(160 - text.length()));
        fault(" ".repeat(160), 160);
        fault(text + " ".repeat(159 - text.length()) + ";", 159);
        fault("strokes" + " ".repeat(152) + "1", 160);
        stands("strokes " + "1+".repeat(60) + "1;doubts 1;pays 1;");
        stands("strokes " + "1 or ".repeat(25) + "1;doubts 1;pays 1;");
        stands("strokes " + "1 and ".repeat(20) + "1;doubts 1;pays 1;");
        stands("strokes " + "1*".repeat(60) + "1;doubts 1;pays 1;");
    }

    private static void readingAfterAFault() {
        DrumOfGuilt x = Checks.people(0);
        x.wrong(1, 3, 0);
        Checks.feed(x, "strokes 1;doubts 1;pays 1;;");
        Checks.due("7 text: a fault", x.text(), -126);
        Checks.due("7 text: an empty tape is fed from its beginning", Checks.feed(x, "strokes 17;"), 11);
        Checks.due("7 text: what was fed since is the text", Checks.read(x, "doubts 18;pays 19;"), 1);
        x.force(1);
        Checks.due("7 text: its strokes", x.asks(0, 0, 0), 17);
        Checks.due("7 text: its doubts", x.asks(1, 0, 0), 18);
        Checks.due("7 text: its pays", x.asks(2, 0, 0), 19);
    }

    private static void forcing() {
        DrumOfGuilt x = Checks.people(0);
        x.wrong(1, 3, 0);
        Checks.due("8 force: no such", x.force(1), -2);
        Checks.due("8 force: below", x.force(-1), -2);
        Checks.read(x, "strokes 5" + TAIL);
        Checks.read(x, "strokes 6" + TAIL);
        Checks.due("8 force: which was", x.force(2), 0);
        Checks.due("8 force: is", x.count(4), 2);
        Checks.due("8 force: says", x.asks(0, 0, 0), 6);
        Checks.due("8 force: the same again", x.force(2), 2);
        Checks.due("8 force: it stays", x.count(4), 2);
        Checks.due("8 force: another", x.force(1), 2);
        Checks.due("8 force: says that", x.asks(0, 0, 0), 5);
        Checks.due("8 force: above", x.force(3), -2);
        Checks.due("8 force: far below", x.force(Integer.MIN_VALUE), -2);
        Checks.due("8 force: stays", x.count(4), 1);
        Checks.due("8 force: the first", x.force(0), 1);
        Checks.due("8 force: says the first", x.asks(0, 0, 0), 1);
        for (int t = 3; t < 6; t++) {
            Checks.read(x, "strokes 1" + t + TAIL);
        }
        Checks.due("8 force: the sixth", x.force(5), 0);
        Checks.due("8 force: says the sixth", x.asks(0, 0, 0), 15);
        Checks.due("8 force: a seventh", x.force(6), -2);
    }

    private static void asking() {
        DrumOfGuilt x = Checks.people(0, 49);
        x.wrong(1, 7, 0);
        Checks.due("9 asks: strokes", x.asks(0, 0, 0), 1);
        Checks.due("9 asks: doubts", x.asks(1, 0, 0), 10);
        Checks.due("9 asks: pays", x.asks(2, 0, 0), 7);
        Checks.due("9 asks: another's wrong, of a kind", x.asks(2, 1, 0), 7);
        Checks.due("9 asks: part", x.asks(3, 0, 0), -2);
        Checks.due("9 asks: part below", x.asks(-1, 0, 0), -2);
        Checks.due("9 asks: nobody", x.asks(0, 2, 0), -2);
        Checks.due("9 asks: nobody below", x.asks(0, -1, 0), -2);
        Checks.due("9 asks: no wrong", x.asks(0, 0, 1), -2);
        Checks.due("9 asks: no wrong below", x.asks(0, 0, -1), -2);
        Checks.law(x, "21", "100", "100");
        Checks.due("9 asks: strokes, the bound", x.asks(0, 0, 0), 20);
        Checks.due("9 asks: doubts, the bound", x.asks(1, 0, 0), 99);
        Checks.due("9 asks: pays, the bound", x.asks(2, 0, 0), 99);
        Checks.law(x, "0-1", "-1", "0-9999");
        Checks.due("9 asks: strokes, the lower bound", x.asks(0, 0, 0), 0);
        Checks.due("9 asks: doubts, the lower bound", x.asks(1, 0, 0), 0);
        Checks.due("9 asks: pays, the lower bound", x.asks(2, 0, 0), 0);
    }

    /** Whatever their kinds, whoever did and saw it: what the text says of them is the same. */
    private static void askingOfAnybody() {
        DrumOfGuilt x = Checks.people(7, 17, 27, 37, 47, 57);
        x.wrong(3, 5, 12);
        Checks.law(x, "9", "15", "13");
        for (int p = 0; p < 6; p++) {
            Checks.due("9 asks: strokes, whoever did it, of kind " + p, x.asks(0, p, 0), 9);
            Checks.due("9 asks: doubts, whoever saw it, of kind " + p, x.asks(1, p, 0), 15);
            Checks.due("9 asks: pays, of kind " + p, x.asks(2, p, 0), 13);
        }
        Checks.law(x, "more+shared+seen", "shared*10+seen", "shared*10+seen");
        for (int p = 0; p < 6; p++) {
            Checks.due("9 asks: shared, seen, whoever did it: strokes, " + p, x.asks(0, p, 0), 11);
            Checks.due("9 asks: shared, seen, whoever saw it: doubts, " + p, x.asks(1, p, 0), 22);
            Checks.due("9 asks: shared, seen: pays, " + p, x.asks(2, p, 0), 22);
        }
    }

    private static void askingOfEach() {
        DrumOfGuilt x = new DrumOfGuilt();
        x.person(3, 37);
        x.person(18, 0);
        x.person(20, 99);
        x.put(0, 1, 12);
        x.wrong(7, 9, 0);
        x.wrong(2, 1, 5);
        Checks.law(x, "more", "pride", "pride");
        int[] prides = {37, 0, 99};
        int[] mores = {3, 8, 0};
        for (int p = 0; p < 3; p++) {
            Checks.due("9 asks: more of " + p, x.asks(0, p, 0), mores[p]);
            Checks.due("9 asks: pride of " + p + ", doubts", x.asks(1, p, 1), prides[p]);
            Checks.due("9 asks: pride of " + p + ", pays", x.asks(2, p, 0), prides[p]);
        }
        Checks.law(x, "weight", "shared", "seen");
        Checks.due("9 asks: weight 9", x.asks(0, 2, 0), 9);
        Checks.due("9 asks: weight 1", x.asks(0, 2, 1), 1);
        Checks.due("9 asks: shared by all", x.asks(1, 2, 0), 3);
        Checks.due("9 asks: shared by one alone is 1", x.asks(1, 2, 1), 1);
        Checks.due("9 asks: seen by nobody", x.asks(2, 2, 0), 0);
        Checks.due("9 asks: seen by two", x.asks(2, 2, 1), 2);
    }

    private static void bound(String says, int strokes, int doubts, int pays) {
        DrumOfGuilt x = Checks.people(0);
        x.wrong(1, 1, 0);
        Checks.law(x, says, says, says);
        Checks.due("9 asks: strokes " + says + ", 0 .. 20", x.asks(0, 0, 0), strokes);
        Checks.due("9 asks: doubts " + says + ", 0 .. 99", x.asks(1, 0, 0), doubts);
        Checks.due("9 asks: pays " + says + ", 0 .. 99", x.asks(2, 0, 0), pays);
    }

    private static void bounds() {
        bound("0", 0, 0, 0);
        bound("-1", 0, 0, 0);
        bound("1", 1, 1, 1);
        bound("20", 20, 20, 20);
        bound("21", 20, 21, 21);
        bound("99", 20, 99, 99);
        bound("100", 20, 99, 99);
        bound("9999", 20, 99, 99);
        bound("9999*9999*9", 20, 99, 99);
        bound("9999*9999*22", 0, 0, 0);
        bound("256*256*256*128", 0, 0, 0);
        bound("256*256*256*128-1", 20, 99, 99);
    }

    /** What pays says, of one of pride 50 and more 9, on day 2, of a wrong of weight 7, two doers, seen by three. */
    private static void says(String pays, int want) {
        DrumOfGuilt x = Checks.people(0, 9, 0, 0, 0);
        x.night();
        x.night();
        x.wrong(3, 7, 28);
        Checks.law(x, "1", "1", pays);
        Checks.due("9 asks: " + pays, x.asks(2, 1, 0), want);
    }

    private static void expressions() {
        says("weight", 7);
        says("shared", 2);
        says("seen", 3);
        says("day", 2);
        says("pride", 50);
        says("more", 9);
        says("2+3*4", 14);
        says("(2+3)*4", 20);
        says("9-3-2", 4);
        says("9-3+2", 8);
        says("2*3*4-5", 19);
        says("-3*-4", 12);
        says("--5", 5);
        says("10+-3", 7);
        says("-3+10", 7);
        says("5 or 0", 1);
        says("0 or 0", 0);
        says("0 or -5", 1);
        says("5 and 7", 1);
        says("1 and 1", 1);
        says("0 and 1", 0);
        says("5 and 0", 0);
        says("1 or 1 and 0", 1);
        says("(1 or 1) and 0", 0);
        says("0 and 0 or 5", 1);
        says("not 0", 1);
        says("not 5", 0);
        says("not not 5", 1);
        says("not 0 and 0", 0);
        says("not 0 or 1", 1);
        says("not 1 = 0", 1);
        says("not 1 < 2", 0);
        says("(not 1) < 2", 1);
        says("1 < 2", 1);
        says("2 < 2", 0);
        says("3 < 2", 0);
        says("-3 < 2", 1);
        says("2 = 2", 1);
        says("2 = 3", 0);
        says("1 + 1 = 2", 1);
        says("5 * (weight < 8) + 3", 8);
        says("5 * (1 or 7)", 5);
        says("7", 7);
        says("9999*9999*9999 < 0", 1);
        says("9999*9999*9999 = 9999*9999*9999", 1);
        // 65536 times 65536 wraps to 0; 32768 times 65536 is the least int, and so is its opposite.
        says("256*256*256*256", 0);
        says("256*256*256*128 = -(256*256*256*128)", 1);
        says("256*256*256*128-1 < 0", 0);
        says("weight*10+shared", 72);
        says("256*256*256*127+256*256*256*127 < 0", 1);
        says("0-256*256*256*127-256*256*256*127 < 0", 0);
        says("256*256*256*128 < 1", 1);
        says("1 < 256*256*256*128", 0);
        says("256*256*256*128 = 256*256*256*128", 1);
        says("256*256*256*128 < 256*256*256*128-1", 1);
        says("5 + (0 or 0)", 5);
        says("5 + (0 or 3)", 6);
        says("5 + (0 and 0)", 5);
        says("5 + (3 and 0)", 5);
        says("5 + (3 and 3)", 6);
        says("5 + (not 3)", 5);
        says("5 + (not 0)", 6);
        says("5 + (2 < 1)", 5);
        says("5 + (1 < 3)", 6);
        says("5 + (1 = 3)", 5);
        says("5 + (3 = 3)", 6);
        says("-1 and -1", 1);
        says("2 and 4", 1);
        says("-1 or 0", 1);
        says("2 or 4", 1);
        says("not -1", 0);
        says("not 2", 0);
        says("not(1-1)", 1);
        says("256*256*256*128 and 1", 1);
        says("256*256*256*128 or 0", 1);
        says("not(256*256*256*128)", 0);
        says("256*256*256*256 or 0", 0);
        says("9999 = 1000*10-1", 1);
        says("0009", 9);
        says("0000", 0);
        says("-0", 0);
    }
}
