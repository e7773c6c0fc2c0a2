/** Promises 6 to 9: feed, text, force, asks; and how a text is read and what it says. */
final class LawTest {
    private static final String TAIL = ";doubts 1;pays 1;";

    public static void main(String[] args) {
        feeding();
        reading();
        faults();
        openOnes();
        fullTexts();
        forcing();
        asking();
        expressions();
        Checks.finish("LawTest");
    }

    private static void feeding() {
        DrumOfGuilt x = new DrumOfGuilt();
        Checks.due("6 feed: n 0", x.feed(0, 1, 1, 1, 1, 1), -2);
        Checks.due("6 feed: n 6", x.feed(6, 1, 1, 1, 1, 1), -2);
        Checks.due("6 feed: a below", x.feed(5, -1, 1, 1, 1, 1), -2);
        Checks.due("6 feed: b above", x.feed(5, 1, 256, 1, 1, 1), -2);
        Checks.due("6 feed: c below", x.feed(5, 1, 1, -1, 1, 1), -2);
        Checks.due("6 feed: d above", x.feed(5, 1, 1, 1, 256, 1), -2);
        Checks.due("6 feed: e of no need, above", x.feed(1, 1, 1, 1, 1, 256), -2);
        Checks.due("6 feed: nothing came", x.count(5), 0);
        Checks.due("6 feed: three", x.feed(3, 0, 255, 7, 8, 9), 3);
        Checks.due("6 feed: five", x.feed(5, 0, 255, 7, 8, 9), 8);
        for (int i = 0; i < 30; i++) {
            x.feed(5, 32, 32, 32, 32, 32);
        }
        Checks.due("6 feed: 158", x.count(5), 158);
        Checks.due("6 feed: bad is told ahead of full", x.feed(5, 1, 1, 1, 1, 256), -2);
        Checks.due("6 feed: not all have room", x.feed(3, 1, 1, 1, 1, 1), -4);
        Checks.due("6 feed: none came", x.count(5), 158);
        Checks.due("6 feed: just room", x.feed(2, 1, 1, 1, 1, 1), 160);
        Checks.due("6 feed: full", x.feed(1, 1, 1, 1, 1, 1), -4);

        x = Checks.people(0);
        x.wrong(1, 4, 0);
        Checks.feed(x, "strokes ");
        x.feed(4, '1', '2', ';', 'd', 'x');
        Checks.feed(x, "oubts 3;pays 4;");
        Checks.due("6 feed: the bytes come in their order", x.text(), 1);
        x.force(1);
        Checks.due("6 feed: as they were fed", x.asks(0, 0, 0), 12);
    }

    private static void reading() {
        DrumOfGuilt x = new DrumOfGuilt();
        Checks.due("7 text: first", Checks.read(x, "strokes 2;doubts 3;pays 4;"), 1);
        Checks.due("7 text: the tape is empty", x.count(5), 0);
        Checks.due("7 text: counted", x.count(3), 2);
        Checks.due("7 text: not the law yet", x.count(4), 0);
        Checks.due("7 text: a fault", Checks.read(x, "strokes 2;doubts 3;pay 4;"), -100 - 19);
        Checks.due("7 text: by a fault, too, the tape is empty", x.count(5), 0);
        Checks.due("7 text: by a fault none comes", x.count(3), 2);
        Checks.due("7 text: second", Checks.read(x, "\nstrokes\n2\n;doubts 3 ; pays(4) ; \n"), 2);
    }

    private static void fault(String text, int place) {
        Checks.due("7 text: " + text.replace('\n', '/'), Checks.read(new DrumOfGuilt(), text), -100 - place);
    }

    private static void stands(String text) {
        Checks.due("7 text: " + text.replace('\n', '/'), Checks.read(new DrumOfGuilt(), text), 1);
    }

    private static void faults() {
        fault("", 0);
        fault("  \n", 3);
        fault("strokes", 7);
        fault("strokes  ", 9);
        fault("strokes 1 ;doubts 1;pays 1", 26);
        fault("strokes 1 ;doubts 1;pays 1 ", 27);
        fault("strokes 1 ;doubts 1;", 20);
        fault("strokes 1 ;doubts 1;pays 1;;", 27);
        fault("strokes 1 ;doubts 1;pays 1; 7", 28);
        fault("strokes 1 ;doubts 1;pays 1; A", 28);
        fault("doubts 1;", 0);
        fault("strokes 1;pays 1;doubts 1;", 10);
        fault("strokes ;", 8);
        fault("strokes 1 1;", 10);
        fault("strokes strokes;", 8);
        fault("strokes or 1;", 8);
        fault("strokes 1 or;", 12);
        fault("strokes 1 and;", 13);
        fault("strokes 1 or or 1;", 13);
        fault("strokes 1 not 1;", 10);
        fault("strokes 1 + not 1;", 12);
        fault("strokes 1 * not 1;", 12);
        fault("strokes - not 1;", 10);
        fault("strokes 1 < not 1;", 12);
        fault("strokes + 1;", 8);
        fault("strokes 1 + + 1;", 12);
        fault("strokes 1 < 2 < 3;", 14);
        fault("strokes 1 = 2 < 3;", 14);
        fault("strokes 1 < 2 = 3;", 14);
        fault("strokes < 2;", 8);
        fault("strokes 1 <;", 11);
        fault("strokes (1;", 10);
        fault("strokes 1);", 9);
        fault("strokes ();", 9);
        fault("strokes (1 or);", 13);
        fault("strokes 2(3);", 9);
        fault("strokes weight day;", 15);
        fault("strokes weights;", 8);
        fault("strokes weightz;", 8);
        fault("strokes wait;", 8);
        fault("strokes keen;", 8);
        fault("strokes seem;", 8);
        fault("strokes orday;", 8);
        fault("strokes 1 xor 2;", 10);
        fault("strokes 12345;", 8);
        fault("strokes 00001;", 8);
        fault("strokes 1 12345;", 10);
        fault("strokes A;", 8);
        fault("strokes 1\t;", 9);
        fault("strokes 1 > 2;", 10);
        fault("strokes 1 / 2;", 10);
        fault("strokes 1" + (char) 160 + ";", 9);
        fault("strokes 1" + (char) 0 + ";", 9);
        fault("strokes `;", 8);
        fault("strokes {;", 8);
        fault("strokes :;", 8);
        fault("Strokes 1;", 0);
        fault("strokes1 ;doubts1 ;pays1 ,", 25);
        stands("strokes1;doubts2;pays3;");
        stands("strokes 9999;doubts 0000;pays 0001;");
        stands("strokes 1or 2and 3;doubts not not 1;pays-1;");
        stands("strokes(1<2)<3;doubts not 1<2;pays 1- -1;");
        stands("strokes 1<2 and 3=4 or not 5;doubts weight+shared-seen*day;pays pride*more;");
    }

    private static void openOnes() {
        stands("strokes (((((1)))))" + TAIL);
        fault("strokes ((((((1))))))" + TAIL, 13);
        stands("strokes -----1" + TAIL);
        fault("strokes ------1" + TAIL, 13);
        stands("strokes not not not not not 1" + TAIL);
        fault("strokes not not not not not not 1" + TAIL, 28);
        stands("strokes not(-(-1))" + TAIL);
        stands("strokes not(-(not 1))" + TAIL);
        fault("strokes not(-(not -1))" + TAIL, 18);
        fault("strokes not(-(not (1)))" + TAIL, 18);
        fault("strokes not(-(not not 1))" + TAIL, 18);
        fault("strokes -----(1)" + TAIL, 13);
        fault("strokes (((((not 1)))))" + TAIL, 13);
        fault("strokes (((((-1)))))" + TAIL, 13);
        // Each of these is closed ahead of the next.
        stands("strokes -1+-1*-1--1<-1+-1*-1" + TAIL);
        stands("strokes not 1 and not 1 and not 1 or not 1 or not 1 or not 1" + TAIL);
        stands("strokes (1)+(1)*(1)-(1)<(1)+(1)+(1)" + TAIL);
        stands("strokes ((((1)+(1)*(1)-(1))))" + TAIL);
        // A not stays open over all of its comparison, also over the second sum.
        stands("strokes not 1 < ((((1))))" + TAIL);
        fault("strokes not 1 < (((((1)))))" + TAIL, 20);
        // A minus ahead of two is none of these.
        stands("strokes (((((1-1)))))" + TAIL);
    }

    private static void fullTexts() {
        DrumOfGuilt x = new DrumOfGuilt();
        for (int t = 1; t < 6; t++) {
            Checks.due("7 text: number", Checks.read(x, "strokes " + t + TAIL), t);
        }
        Checks.feed(x, "?");
        Checks.due("7 text: full is told ahead of the fault", x.text(), -4);
        Checks.due("7 text: full, the tape stays", x.count(5), 1);
        Checks.due("7 text: six", x.count(3), 6);
    }

    private static void forcing() {
        DrumOfGuilt x = Checks.people(0);
        x.wrong(1, 3, 0);
        Checks.due("8 force: no such", x.force(1), -2);
        Checks.due("8 force: below", x.force(-1), -2);
        Checks.read(x, "strokes 5" + TAIL);
        Checks.read(x, "strokes 6" + TAIL);
        Checks.due("8 force: which was", x.force(2), 0);
        Checks.due("8 force: is", x.count(4), 2);
        Checks.due("8 force: says", x.asks(0, 0, 0), 6);
        Checks.due("8 force: another", x.force(1), 2);
        Checks.due("8 force: says that", x.asks(0, 0, 0), 5);
        Checks.due("8 force: above", x.force(3), -2);
        Checks.due("8 force: far below", x.force(Integer.MIN_VALUE), -2);
        Checks.due("8 force: stays", x.count(4), 1);
        Checks.due("8 force: the first", x.force(0), 1);
        Checks.due("8 force: says the first", x.asks(0, 0, 0), 1);
    }

    private static void asking() {
        DrumOfGuilt x = Checks.people(0, 49);
        x.wrong(1, 7, 0);
        Checks.due("9 asks: strokes", x.asks(0, 0, 0), 1);
        Checks.due("9 asks: doubts", x.asks(1, 0, 0), 10);
        Checks.due("9 asks: pays", x.asks(2, 0, 0), 7);
        Checks.due("9 asks: another's wrong, of a kind", x.asks(2, 1, 0), 7);
        Checks.due("9 asks: part", x.asks(3, 0, 0), -2);
        Checks.due("9 asks: part below", x.asks(-1, 0, 0), -2);
        Checks.due("9 asks: nobody", x.asks(0, 2, 0), -2);
        Checks.due("9 asks: nobody below", x.asks(0, -1, 0), -2);
        Checks.due("9 asks: no wrong", x.asks(0, 0, 1), -2);
        Checks.due("9 asks: no wrong below", x.asks(0, 0, -1), -2);
        Checks.law(x, "21", "100", "100");
        Checks.due("9 asks: strokes, the bound", x.asks(0, 0, 0), 20);
        Checks.due("9 asks: doubts, the bound", x.asks(1, 0, 0), 99);
        Checks.due("9 asks: pays, the bound", x.asks(2, 0, 0), 99);
        Checks.law(x, "0-1", "-1", "0-9999");
        Checks.due("9 asks: strokes, the lower bound", x.asks(0, 0, 0), 0);
        Checks.due("9 asks: doubts, the lower bound", x.asks(1, 0, 0), 0);
        Checks.due("9 asks: pays, the lower bound", x.asks(2, 0, 0), 0);
    }

    /** What pays says, of one of pride 50 and more 9, on day 2, of a wrong of weight 7, two doers, seen by three. */
    private static void says(String pays, int want) {
        DrumOfGuilt x = Checks.people(0, 9, 0, 0, 0);
        x.night();
        x.night();
        x.wrong(3, 7, 28);
        Checks.law(x, "1", "1", pays);
        Checks.due("9 asks: " + pays, x.asks(2, 1, 0), want);
    }

    private static void expressions() {
        says("weight", 7);
        says("shared", 2);
        says("seen", 3);
        says("day", 2);
        says("pride", 50);
        says("more", 9);
        says("2+3*4", 14);
        says("(2+3)*4", 20);
        says("9-3-2", 4);
        says("9-3+2", 8);
        says("2*3*4-5", 19);
        says("-3*-4", 12);
        says("--5", 5);
        says("10+-3", 7);
        says("-3+10", 7);
        says("5 or 0", 1);
        says("0 or 0", 0);
        says("0 or -5", 1);
        says("5 and 7", 1);
        says("1 and 1", 1);
        says("0 and 1", 0);
        says("5 and 0", 0);
        says("1 or 1 and 0", 1);
        says("(1 or 1) and 0", 0);
        says("0 and 0 or 5", 1);
        says("not 0", 1);
        says("not 5", 0);
        says("not not 5", 1);
        says("not 0 and 0", 0);
        says("not 0 or 1", 1);
        says("not 1 = 0", 1);
        says("not 1 < 2", 0);
        says("(not 1) < 2", 1);
        says("1 < 2", 1);
        says("2 < 2", 0);
        says("3 < 2", 0);
        says("-3 < 2", 1);
        says("2 = 2", 1);
        says("2 = 3", 0);
        says("1 + 1 = 2", 1);
        says("5 * (weight < 8) + 3", 8);
        says("5 * (1 or 7)", 5);
        says("7", 7);
        says("9999*9999*9999 < 0", 1);
        says("9999*9999*9999 = 9999*9999*9999", 1);
        // 65536 times 65536 wraps to 0; 32768 times 65536 is the least int, and so is its opposite.
        says("256*256*256*256", 0);
        says("256*256*256*128 = -(256*256*256*128)", 1);
        says("256*256*256*128-1 < 0", 0);
        says("weight*10+shared", 72);
    }
}
