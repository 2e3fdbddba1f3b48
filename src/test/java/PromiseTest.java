import java.util.List;

/** Every promise of the document: ordinary inputs, the edges that it names, and wrong inputs. Answers are worked out by hand. */
public final class PromiseTest {
    private static final int NONE = -1, BAD = -2, NOT = -3, FULL = -4;
    private static final int NULL = -11, INDEX = -12, CAST = -13, STORE = -14, SIZE = -15;
    private static final int CHARGE = 0, AGAINST = 1, ELSEWHERE = 2;
    private static final int LEAST_INT = Integer.MIN_VALUE;
    private static int wrong = 0;
    private static int asked = 0;
    private static int promise = 0;

    public static void main(String[] args) {
        towns();
        words();
        laws();
        inAnOrder();
        atOnce();
        wanted();
        sheets();
        System.out.println(wrong == 0 ? "PromiseTest: all " + asked + " answers are as due" : wrong + " answers are not as due");
        if (wrong != 0) {
            System.exit(1);
        }
    }

    private static void due(String what, long got, long want) {
        asked++;
        if (got != want) {
            wrong++;
            System.out.println("promise " + promise + ": " + what + " answered " + got + ", due is " + want);
        }
    }

    // ---- helpers

    private static void law(HeardWords x, int law, String text) {
        x.wipe(law);
        for (char c : text.toCharArray()) {
            x.type(law, c);
        }
    }

    private static int faultOf(String text) {
        HeardWords x = new HeardWords();
        law(x, 1, text);
        return x.fault(1);
    }

    private static void fill(HeardWords x, int s, int form, int... items) {
        x.sheet(s, form, items.length);
        for (int i = 0; i < items.length; i++) {
            x.put(s, form, i, items[i]);
        }
    }

    /** A charge in town 0 at hour 0. */
    private static int charge(HeardWords x, int group, int value) {
        return x.word(CHARGE, group, 0, 0, value);
    }

    private static int against(HeardWords x, int group, int about) {
        return x.word(AGAINST, group, 0, 0, about);
    }

    /** An elsewhere in a town where the one it is about is not; without roads it is possible. */
    private static int elsewhere(HeardWords x, int group, int about) {
        return x.word(ELSEWHERE, group, x.is(about, 2) == 0 ? 1 : 0, 0, about);
    }

    private static int orderedBy(HeardWords x, int law, int what, int... order) {
        fill(x, 3, 0, order);
        return x.ordered(law, 3, what);
    }

    // ---- 1 to 3

    private static void towns() {
        promise = 1;
        HeardWords x = new HeardWords();
        for (int what = 0; what <= 5; what++) {
            due("count(" + what + ") of a new object", x.count(what), 0);
        }
        due("count(8) of a new object", x.count(8), 0);
        for (int a = 0; a < 6; a++) {
            for (int b = 0; b < 6; b++) {
                due("away(" + a + ", " + b + ") of a new object", x.away(a, b), a == b ? 0 : 1000);
            }
        }
        due("is(0, 0) of a new object", x.is(0, 0), BAD);
        for (int s = 0; s < 4; s++) {
            due("lose(" + s + ") of a new object", x.lose(s), NULL);
        }
        HeardWords y = new HeardWords();
        charge(y, 3, 1);
        y.sheet(0, 0, 1);
        due("an object of its own", new HeardWords().count(0), 0);

        promise = 2;
        x = new HeardWords();
        due("first road", x.road(0, 1, 5), 0);
        due("what it took, from the other end", x.road(1, 0, 7), 5);
        due("one road", x.count(4), 1);
        due("another", x.road(4, 5, 99), 0);
        due("two roads", x.count(4), 2);
        due("none any more", x.road(0, 1, 0), 7);
        due("none again", x.road(0, 1, 0), 0);
        due("one road again", x.count(4), 1);
        due("a shortest one", x.road(2, 3, 1), 0);
        HeardWords each = new HeardWords();
        for (int a = 0; a < 6; a++) {
            for (int b = 0; b < a; b++) {
                due("road(" + a + ", " + b + ", 1)", each.road(a, b, 1), 0);
                due("one road, wherever it is", each.count(4), 1);
                due("road(" + b + ", " + a + ", 0)", each.road(b, a, 0), 1);
                due("none", each.count(4), 0);
            }
        }
        int[][] bad = {{-1, 0, 1}, {0, -1, 1}, {6, 0, 1}, {0, 6, 1}, {3, 3, 1}, {3, 3, 0}, {2, 3, -1}, {2, 3, 100},
            {Integer.MIN_VALUE, 0, 1}, {0, Integer.MAX_VALUE, 1}, {2, 3, Integer.MAX_VALUE}, {2, 3, Integer.MIN_VALUE}};
        for (int[] b : bad) {
            due("road(" + b[0] + ", " + b[1] + ", " + b[2] + ")", x.road(b[0], b[1], b[2]), BAD);
        }
        due("BAD changed nothing", x.road(2, 3, 4), 1);
        due("BAD is no finding", x.count(8), 0);

        promise = 3;
        x = new HeardWords();
        x.road(0, 1, 5);
        x.road(1, 2, 1);
        due("over a town", x.away(0, 2), 6);
        due("and back", x.away(2, 0), 6);
        x.road(2, 0, 4);
        due("the direct road is quicker", x.away(0, 2), 4);
        due("the way around is not", x.away(0, 1), 5);
        x.road(2, 0, 9);
        due("the direct road is slower", x.away(0, 2), 6);
        x.road(1, 2, 0);
        due("the road over a town is gone", x.away(0, 2), 9);
        due("around by the long road", x.away(1, 2), 14);
        due("no way", x.away(0, 3), 1000);
        due("from itself", x.away(3, 3), 0);
        x = new HeardWords();
        int[] line = {3, 0, 5, 2, 4, 1};
        for (int i = 0; i < 5; i++) {
            x.road(line[i], line[i + 1], 99);
        }
        due("the longest way there can be", x.away(3, 1), 495);
        due("a part of it", x.away(2, 0), 198);
        int[][] away = {{-1, 0}, {0, -1}, {6, 6}, {0, 6}, {Integer.MAX_VALUE, 0}, {0, Integer.MIN_VALUE}};
        for (int[] b : away) {
            due("away(" + b[0] + ", " + b[1] + ")", x.away(b[0], b[1]), BAD);
        }
    }

    // ---- 4 to 7

    private static void words() {
        promise = 4;
        HeardWords x = new HeardWords();
        int[][] bad = {{-1, 1, 0, 0, 0}, {3, 1, 0, 0, 0}, {0, 0, 0, 0, 0}, {0, -1, 0, 0, 0}, {0, 1024, 0, 0, 0}, {0, 1, -1, 0, 0},
            {0, 1, 6, 0, 0}, {0, 1, 0, -1, 0}, {0, 1, 0, 1000, 0}, {0, 1, 0, 0, -1}, {0, 1, 0, 0, 100}, {1, 1, 0, 0, 0},
            {2, 1, 0, 0, 0}, {1, 1, 0, 0, -1}, {2, 1, 0, 0, -1}, {Integer.MIN_VALUE, 1, 0, 0, 0}, {1, 1, 0, 0, Integer.MAX_VALUE}};
        for (int[] b : bad) {
            due("word" + List.of(b[0], b[1], b[2], b[3], b[4]), x.word(b[0], b[1], b[2], b[3], b[4]), BAD);
        }
        due("none told", x.count(0), 0);
        due("least of all", x.word(0, 1, 0, 0, 0), 0);
        due("most of all", x.word(0, 1023, 5, 999, 99), 1);
        due("against", x.word(1, 1, 0, 0, 1), 2);
        due("elsewhere about an against", x.word(2, 1, 0, 0, 2), 3);
        due("against an elsewhere", x.word(1, 1, 0, 0, 3), 4);
        due("elsewhere about an elsewhere", x.word(2, 1, 0, 0, 3), 5);
        due("kind -1, about a word", x.word(-1, 1, 0, 0, 0), BAD);
        due("kind 3, about a word", x.word(3, 1, 0, 0, 0), BAD);
        due("about itself", x.word(2, 1, 0, 0, 6), BAD);
        due("against itself", x.word(1, 1, 0, 0, 6), BAD);
        due("a charge of value above words", x.word(0, 1, 0, 0, 50), 6);
        for (int i = 7; i < 10; i++) {
            due("word " + i, x.word(0, 1, 0, 0, 9), i);
        }
        due("an eleventh", x.word(0, 1, 0, 0, 9), FULL);
        due("BAD ahead of FULL", x.word(0, 1, 0, 0, 100), BAD);
        due("about none, and full", x.word(1, 1, 0, 0, 10), BAD);
        due("ten", x.count(0), 10);
        due("FULL is no finding", x.count(8), 0);

        reading();

        promise = 6;
        x = new HeardWords();
        x.word(CHARGE, 5, 2, 17, 42);
        x.word(ELSEWHERE, 6, 3, 20, 0);
        x.word(AGAINST, 7, 4, 999, 1);
        int[][] want = {{0, 5, 2, 17, 42, 0, 0}, {2, 6, 3, 20, 0, 0, 1}, {1, 7, 4, 999, 1, 0, 0}};
        for (int w = 0; w < 3; w++) {
            for (int what = 0; what < 7; what++) {
                due("is(" + w + ", " + what + ")", x.is(w, what), want[w][what]);
            }
        }
        x.road(2, 3, 4);
        due("4 away, 3 apart", x.is(1, 6), 1);
        x.road(2, 3, 3);
        due("3 away, 3 apart", x.is(1, 6), 0);
        x.road(2, 3, 0);
        due("no way", x.is(1, 6), 1);
        x.keep(2);
        due("kept back", x.is(1, 5), 1);
        due("possible, though kept back", x.is(1, 6), 1);
        due("another is not kept back", x.is(0, 5), 0);
        x = new HeardWords();
        x.word(CHARGE, 5, 2, 999, 42);
        x.word(ELSEWHERE, 6, 2, 999, 0);
        x.word(ELSEWHERE, 6, 3, 0, 0);
        due("in the same town at the same hour", x.is(1, 6), 0);
        due("no way, 999 hours apart", x.is(2, 6), 1);
        due("is(0, -1)", x.is(0, -1), BAD);
        due("is(0, 7)", x.is(0, 7), BAD);
        due("is(-1, 0)", x.is(-1, 0), BAD);
        due("is(3, 0)", x.is(3, 0), BAD);
        due("is(max, 0)", x.is(Integer.MAX_VALUE, 0), BAD);

        promise = 7;
        due("none were", x.keep(5), 0);
        due("two were", x.keep(7), 5);
        due("all were", x.keep(0), 7);
        x.keep(6);
        due("a word there is not", x.keep(8), BAD);
        due("one there is and one there is not", x.keep(9), BAD);
        due("below 0", x.keep(-1), BAD);
        due("BAD changed nothing", x.count(1), 6);
        charge(x, 3, 1);
        due("a new word is not kept back", x.count(1), 6);
        due("now there is one", x.keep(8), 6);
    }

    private static void reading() {
        promise = 5;
        HeardWords x = new HeardWords();
        fill(x, 0, 1, 0, 1023, 1, 999, 99, 1, 512, 5, 0, 0, 2, 3, 4, 5, 1, 0, 1, 1, 1);
        due("three whole ones", x.read(0), 3);
        due("are told", x.count(0), 3);
        due("group of the first", x.is(0, 1), 1023);
        due("hour of the first", x.is(0, 3), 999);
        due("value of the first", x.is(0, 4), 99);
        due("kind of the second", x.is(1, 0), 1);
        due("town of the third", x.is(2, 2), 4);
        due("what the third is about", x.is(2, 4), 1);
        due("the sheet stays", x.lose(0), 19);
        fill(x, 0, 2, 0, 1, 0, 0, 0, 0, 1, 0, 0, 100, 0, 1, 0, 0, 0);
        due("as long as each may be", x.read(0), 1);
        due("the one ahead stays", x.count(0), 4);
        fill(x, 0, 0, 0, 200, 0, 0, 0);
        due("a byte of 200 is below 0", x.read(0), 0);
        x.sheet(0, 2, 4);
        due("none whole", x.read(0), 0);
        x.sheet(0, 2, 0);
        due("none at all", x.read(0), 0);
        fill(x, 1, 0, 0, 1, 0, 0, 1, 0, 1, 0, 0, 2, 0, 1, 0, 0, 3, 0, 1, 0, 0, 4, 0, 1, 0, 0, 5, 0, 1, 0, 0, 6, 0, 1, 0, 0, 7, 0, 1, 0, 0, 8);
        due("no more than ten", x.read(1), 6);
        due("ten", x.count(0), 10);
        due("the last that came", x.is(9, 4), 6);
        due("full", x.read(1), 0);
        due("no finding yet", x.count(8), 0);
        due("lost", x.read(2), NULL);
        due("finding", x.count(8), 1);
        due("read(-1)", x.read(-1), BAD);
        due("read(4)", x.read(4), BAD);
        HeardWords y = new HeardWords();
        fill(y, 1, 0, 0, 1, 0, 0, 1, 0, 1, 0, 0, 2, 0, 1, 0, 0, 3, 0, 1, 0, 0, 4, 0, 1, 0, 0, 5, 0, 1, 0, 0, 6, 0, 1, 0, 0, 7, 0, 1, 0, 0, 8);
        due("eight on one sheet", y.read(1), 8);
        fill(y, 1, 0, 1, 1, 0, 0, 7, 1, 1, 0, 0, 9);
        due("about one not told yet", y.read(1), 1);
    }

    // ---- 8 to 11

    private static void laws() {
        promise = 8;
        HeardWords x = new HeardWords();
        due("type(-1, 0)", x.type(-1, 0), BAD);
        due("type(2, 0)", x.type(2, 0), BAD);
        due("type(0, -1)", x.type(0, -1), BAD);
        due("type(0, 256)", x.type(0, 256), BAD);
        due("type(0, max)", x.type(0, Integer.MAX_VALUE), BAD);
        for (int i = 1; i <= 40; i++) {
            due("byte " + i, x.type(0, i == 40 ? 255 : i == 39 ? 0 : 'g'), i);
        }
        due("one more", x.type(0, 'g'), FULL);
        due("BAD ahead of FULL", x.type(0, 256), BAD);
        due("bytes of law 0", x.count(2), 40);
        due("the other is empty", x.type(1, 'g'), 1);
        due("bytes of law 1", x.count(3), 1);

        promise = 9;
        due("40 bytes", x.wipe(0), 40);
        due("empty", x.wipe(0), 0);
        due("the other stays", x.count(3), 1);
        due("wipe(-1)", x.wipe(-1), BAD);
        due("wipe(2)", x.wipe(2), BAD);
        law(x, 1, "g=1");
        x.wipe(1);
        due("without any part", x.law(1, 0), 2);
        due("from the front again", x.type(1, 'e'), 1);

        promise = 10;
        String[] well = {"", "g=1", "g=4", "c=0", "c=2", "e=0", "e=1", "p=0", "p=1", "g=2;c=1;e=1;p=1", "p=1;p=0;p=1",
            "g=1;g=2;g=3;g=4;g=1;g=2;g=3;g=4;g=1;c=2"};
        for (String text : well) {
            due("fault of " + text, faultOf(text), NONE);
        }
        String[] ill = {"g", "g=", "g=1;", "g=1;c", "g=1;c=", "g=0", "g=5", "c=3", "e=2", "p=2", "x=1", ";", "=", "1", " g=1", "g =1",
            "g= 1", "g=1 ", "g=1;;", "g=1,c=1", "g=1;x=1", "g=11", "c=/", "c=:", "G=1", "g=1;c=2;e=1;p=3", "g=1;c=3;e=9", "gg", "g=1;c-1",
            "g=1;g=2;g=3;g=4;g=1;g=2;g=3;g=4;g=1;c=2;"};
        int[] at = {1, 2, 4, 5, 6, 2, 2, 2, 2, 2, 0, 0, 0, 0, 0, 1, 2, 3, 4, 3, 4, 3, 2, 2, 0, 14, 6, 1, 5, 40};
        for (int i = 0; i < ill.length; i++) {
            due("fault of " + ill[i], faultOf(ill[i]), at[i]);
        }
        for (int b = 0; b < 256; b++) {
            x = new HeardWords();
            x.type(0, b);
            due("fault of byte " + b, x.fault(0), "gcep".indexOf((char) b) >= 0 ? 1 : 0);
        }
        due("fault(-1)", x.fault(-1), BAD);
        due("fault(2)", x.fault(2), BAD);
        due("the other's fault", x.fault(1), NONE);

        promise = 11;
        x = new HeardWords();
        int[] without = {2, 0, 0, 0};
        for (int which = 0; which < 4; which++) {
            due("without any part " + which, x.law(0, which), without[which]);
        }
        law(x, 0, "p=1;e=1;c=2;g=4");
        int[] all = {4, 2, 1, 1};
        for (int which = 0; which < 4; which++) {
            due("all parts " + which, x.law(0, which), all[which]);
            due("the other law " + which, x.law(1, which), without[which]);
        }
        law(x, 0, "g=3;g=1;c=1;c=2;c=1;e=1;e=0;p=0;p=1");
        int[] last = {1, 1, 0, 1};
        for (int which = 0; which < 4; which++) {
            due("the last is so " + which, x.law(0, which), last[which]);
        }
        law(x, 0, "g=3;c=1;e=1;p=1;");
        for (int which = 0; which < 4; which++) {
            due("with a fault " + which, x.law(0, which), without[which]);
        }
        due("law(0, -1)", x.law(0, -1), BAD);
        due("law(0, 4)", x.law(0, 4), BAD);
        due("law(-1, 0)", x.law(-1, 0), BAD);
        due("law(2, 0)", x.law(2, 0), BAD);
    }

    // ---- 12 to 15

    private static void inAnOrder() {
        promise = 12;
        enough();
        quarrels();
        undoing();
        HeardWords x = new HeardWords();
        charge(x, 3, 1);
        due("heard(-1, 0)", x.heard(-1, 0), BAD);
        due("heard(2, 0)", x.heard(2, 0), BAD);
        due("heard(0, -1)", x.heard(0, -1), BAD);
        due("heard(0, 3)", x.heard(0, 3), BAD);
        inTheOrderOfASheet();
        heads();
        inAllOrders();
    }

    private static void enough() {
        HeardWords x = new HeardWords();
        charge(x, 1, 1);
        charge(x, 3, 1);
        charge(x, 7, 1);
        charge(x, 1023, 1);
        due("two make a word", x.heard(0, 0), 14);
        String[] text = {"g=1", "g=2", "g=3", "g=4", "g=5"};
        int[] stand = {15, 14, 12, 8, 14};
        for (int i = 0; i < text.length; i++) {
            law(x, 0, text[i]);
            due("by " + text[i], x.heard(0, 0), stand[i]);
        }
        x.keep(8);
        due("kept back", x.heard(1, 0), 6);
        x.keep(0);
        due("heard again", x.heard(1, 0), 14);
    }

    private static void quarrels() {
        HeardWords x = new HeardWords();
        charge(x, 3, 5);
        against(x, 12, 0);
        against(x, 48, 0);
        due("c 0: both fall, the third has none to quarrel with", x.heard(0, 0), 4);
        due("falling in a quarrel is not being undone", x.heard(0, 1), 0);
        law(x, 0, "c=1");
        due("c 1: the later one falls", x.heard(0, 0), 1);
        law(x, 0, "c=2");
        due("c 2: of as many both", x.heard(0, 0), 4);
        x = new HeardWords();
        charge(x, 3, 5);
        against(x, 7, 0);
        law(x, 0, "c=2");
        due("c 2: the smaller one falls", x.heard(0, 0), 2);
        x = new HeardWords();
        charge(x, 7, 5);
        against(x, 3, 0);
        against(x, 24, 0);
        against(x, 31, 0);
        law(x, 0, "c=2");
        due("c 2: the greater one outlasts two and falls to the third", x.heard(0, 0), 8);
        x = new HeardWords();
        charge(x, 3, 5);
        against(x, 1, 0);
        due("who is not able quarrels with none", x.heard(0, 0), 1);
        x = new HeardWords();
        charge(x, 3, 5);
        against(x, 3, 0);
        due("the same witnesses may be against themselves", x.heard(0, 0), 0);
        x.keep(1);
        due("against one that is kept back", x.heard(0, 0), 2);
    }

    private static void undoing() {
        HeardWords x = new HeardWords();
        charge(x, 3, 5);
        elsewhere(x, 12, 0);
        charge(x, 5, 6);
        due("undone falls", x.heard(0, 0), 6);
        due("undone", x.heard(0, 1), 1);
        due("e 0: none is out", x.heard(0, 2), 0);
        law(x, 0, "e=1");
        due("e 1: its witnesses are out, and p 0: none may be", x.heard(0, 0), 2);
        due("undone", x.heard(0, 1), 1);
        due("out", x.heard(0, 2), 3);
        law(x, 0, "e=1;p=1");
        due("p 1, but two make a word", x.heard(0, 0), 2);
        law(x, 0, "e=1;p=1;g=1");
        due("p 1: the rest counts", x.heard(0, 0), 6);
        x.road(0, 1, 1);
        due("one hour away, at the same hour", x.heard(0, 0), 6);
        x.keep(2);
        due("kept back", x.heard(0, 0), 5);
        x = new HeardWords();
        charge(x, 3, 5);
        x.word(ELSEWHERE, 12, 0, 0, 0);
        due("not possible undoes nothing", x.heard(0, 0), 3);
        x = new HeardWords();
        charge(x, 3, 5);
        charge(x, 9, 5);
        elsewhere(x, 6, 0);
        law(x, 0, "e=1");
        due("words that stand stay", x.heard(0, 0), 6);
        due("out", x.heard(0, 2), 3);
        charge(x, 10, 5);
        due("out from then on", x.heard(0, 0), 6);
        x = new HeardWords();
        charge(x, 3, 5);
        elsewhere(x, 12, 0);
        elsewhere(x, 48, 1);
        due("undone by one that is undone then", x.heard(0, 0), 4);
        due("both", x.heard(0, 1), 3);
        x = new HeardWords();
        charge(x, 3, 5);
        against(x, 12, 0);
        elsewhere(x, 48, 0);
        due("what fell is not undone", x.heard(0, 1), 0);
        x = new HeardWords();
        charge(x, 3, 5);
        elsewhere(x, 12, 0);
        against(x, 12, 1);
        due("what fell does not stand again", x.heard(0, 0), 0);
        due("it stays undone", x.heard(0, 1), 1);
    }

    private static void inTheOrderOfASheet() {
        promise = 13;
        HeardWords x = new HeardWords();
        charge(x, 3, 20);
        elsewhere(x, 12, 0);
        elsewhere(x, 48, 1);
        against(x, 192, 0);
        due("the elsewhere ahead: it is undone itself", orderedBy(x, 0, 0, 1, 0), 2);
        due("undone", orderedBy(x, 0, 1, 1, 0), 1);
        due("backwards", orderedBy(x, 0, 0, 3, 2, 1, 0), 4);
        due("undone", orderedBy(x, 0, 1, 3, 2, 1, 0), 2);
        due("who undoes is not undone then", orderedBy(x, 0, 0, 0, 2, 1), 6);
        due("undone", orderedBy(x, 0, 1, 0, 2, 1), 1);
        due("one alone", orderedBy(x, 0, 0, 1), 2);
        due("none", orderedBy(x, 0, 0), 0);
        law(x, 0, "c=1;e=1");
        due("c 1: the later one heard falls", orderedBy(x, 0, 0, 3, 0), 8);
        due("out", orderedBy(x, 0, 2, 1, 0, 2), 15);
        due("nobody out", orderedBy(x, 0, 2, 3, 0), 0);
        due("one that fell in a quarrel is not undone", orderedBy(x, 0, 1, 3, 1, 0), 0);
        due("nor are its witnesses out", orderedBy(x, 0, 2, 3, 1, 0), 0);
        due("the other law", orderedBy(x, 1, 0, 3, 0), 0);
        fill(x, 0, 2, 0, 3);
        due("ints", x.ordered(0, 0, 0), 1);
        fill(x, 0, 1, 3, 0);
        due("shorts", x.ordered(0, 0, 0), 8);
        due("twice", orderedBy(x, 0, 0, 0, 1, 0), NOT);
        due("no word", orderedBy(x, 0, 0, 4), NOT);
        due("below 0", orderedBy(x, 0, 0, 0, -1), NOT);
        fill(x, 0, 2, Integer.MIN_VALUE);
        due("far below 0", x.ordered(0, 0, 0), NOT);
        fill(x, 0, 2, 32);
        due("32", x.ordered(0, 0, 0), NOT);
        x.keep(2);
        due("kept back", orderedBy(x, 0, 0, 0, 1), NOT);
        due("not kept back", orderedBy(x, 0, 0, 0, 2), 5);
        due("NOT is no finding", x.count(8), 0);
        due("lost", x.ordered(0, 1, 0), NULL);
        due("finding", x.count(8), 1);
        due("ordered(-1, 0, 0)", x.ordered(-1, 0, 0), BAD);
        due("ordered(2, 1, 0)", x.ordered(2, 1, 0), BAD);
        due("ordered(0, -1, 0)", x.ordered(0, -1, 0), BAD);
        due("ordered(0, 4, 0)", x.ordered(0, 4, 0), BAD);
        due("ordered(0, 1, -1)", x.ordered(0, 1, -1), BAD);
        due("ordered(0, 1, 3)", x.ordered(0, 1, 3), BAD);
        x = new HeardWords();
        charge(x, 3, 1);
        against(x, 7, 0);
        charge(x, 3, 1);
        against(x, 31, 0);
        law(x, 0, "c=2");
        due("quarrels by numbers: it falls to the first", orderedBy(x, 0, 0, 3, 1, 0), 10);
        law(x, 0, "c=0");
        due("quarrels by numbers: both fall, the second stands", orderedBy(x, 0, 0, 3, 1, 0), 8);
    }

    private static void heads() {
        promise = 14;
        HeardWords x = new HeardWords();
        charge(x, 3, 20);
        charge(x, 6, 30);
        charge(x, 513, 40);
        elsewhere(x, 48, 0);
        elsewhere(x, 48, 1);
        elsewhere(x, 48, 3);
        int[] head = {20, 50, 30, 0, 0, 0, 0, 0, 0, 0};
        for (int w = 0; w < 10; w++) {
            due("witness " + w, x.head(0, w), head[w]);
        }
        x.keep(8);
        due("not undone", x.head(0, 0), 0);
        due("undone still", x.head(0, 1), 30);
        law(x, 1, "g=3");
        due("the other law", x.head(1, 1), 0);
        x = new HeardWords();
        for (int i = 0; i < 5; i++) {
            charge(x, 516, 99);
        }
        for (int i = 0; i < 5; i++) {
            elsewhere(x, 3, i);
        }
        due("495 on the last one", x.head(0, 9), 495);
        due("none on another", x.head(0, 8), 0);
        law(x, 0, "e=1");
        due("e 1: those that stand stay, and are undone", x.head(0, 2), 495);
        x = new HeardWords();
        charge(x, 3, 20);
        against(x, 12, 0);
        elsewhere(x, 48, 0);
        due("not for falling in a quarrel", x.head(0, 0), 0);
        due("head(-1, 0)", x.head(-1, 0), BAD);
        due("head(2, 0)", x.head(2, 0), BAD);
        due("head(0, -1)", x.head(0, -1), BAD);
        due("head(0, 10)", x.head(0, 10), BAD);
    }

    private static void inAllOrders() {
        promise = 15;
        HeardWords x = new HeardWords();
        due("no words: one order", x.orders(0, NONE), 1);
        int factorial = 1;
        for (int i = 1; i <= 7; i++) {
            charge(x, i == 7 ? 1 : 3, 1);
            factorial *= i;
            due(i + " words", x.orders(0, NONE), factorial);
            due("it stands in all, if it is able", x.orders(0, i - 1), i == 7 ? 0 : factorial);
        }
        due("seven words: the first", x.orders(0, 0), 5040);
        charge(x, 3, 1);
        due("eight: how many", x.orders(0, NONE), FULL);
        due("eight: a word", x.orders(0, 0), FULL);
        due("BAD ahead of FULL", x.orders(0, 8), BAD);
        x.keep(1);
        due("seven are heard", x.orders(0, NONE), 5040);
        due("kept back", x.orders(0, 0), 0);
        due("orders(0, -2)", x.orders(0, -2), BAD);
        due("orders(-1, 0)", x.orders(-1, 0), BAD);
        due("orders(2, -1)", x.orders(2, NONE), BAD);
        x = new HeardWords();
        charge(x, 3, 20);
        against(x, 12, 0);
        due("c 0: in none", x.orders(0, 0), 0);
        law(x, 0, "c=1");
        due("c 1: in the half", x.orders(0, 0), 1);
        due("c 1: the other", x.orders(0, 1), 1);
        elsewhere(x, 48, 0);
        due("c 1: the charge is undone in every order", x.orders(0, 0), 0);
        due("the against stands if it is first of both, or behind the undoing", x.orders(0, 1), 5);
        due("the elsewhere", x.orders(0, 2), 6);
        x = new HeardWords();
        charge(x, 3, 1);
        elsewhere(x, 12, 0);
        charge(x, 5, 1);
        due("e 0", x.orders(0, 2), 6);
        law(x, 0, "e=1");
        due("e 1: only ahead of one of them", x.orders(0, 2), 4);
        due("the elsewhere", x.orders(0, 1), 6);
        law(x, 0, "e=1;p=1;g=1");
        due("p 1", x.orders(0, 2), 6);
    }

    // ---- 16 to 20

    private static void atOnce() {
        promise = 16;
        HeardWords x = new HeardWords();
        charge(x, 3, 1);
        elsewhere(x, 12, 0);
        against(x, 7, 0);
        x.word(ELSEWHERE, 48, 0, 0, 0);
        against(x, 24, 1);
        String[] texts = {"c=0", "c=1", "c=2", "g=3", "g=1;e=1;p=1"};
        int[][] pairs = {{1, 0}, {0, 1}, {2, 0}, {0, 2}, {3, 0}, {0, 3}, {4, 1}, {1, 4}, {2, 4}, {0, 0}};
        int[][] want = {{1, 0, 1, 1, 0, 0, 1, 1, 0, 0}, {1, 0, 0, 1, 0, 0, 0, 1, 0, 0}, {1, 0, 1, 0, 0, 0, 1, 1, 0, 0},
            {0, 0, 0, 0, 0, 0, 0, 0, 0, 0}, {1, 0, 1, 1, 0, 0, 1, 1, 0, 0}};
        for (int t = 0; t < texts.length; t++) {
            law(x, 1, texts[t]);
            for (int i = 0; i < pairs.length; i++) {
                due(texts[t] + ": " + pairs[i][0] + " and " + pairs[i][1], x.strikes(1, pairs[i][0], pairs[i][1]), want[t][i]);
            }
        }
        HeardWords y = new HeardWords();
        charge(y, 7, 1);
        against(y, 3, 0);
        law(y, 0, "c=2");
        due("c 2: the greater strikes", y.strikes(0, 0, 1), 1);
        due("c 2: the smaller does not", y.strikes(0, 1, 0), 0);
        law(y, 0, "g=3");
        due("one has too few", y.strikes(0, 0, 1), 0);
        x.keep(1);
        due("about one kept back", x.strikes(0, 1, 0), 0);
        x.keep(2);
        due("one kept back", x.strikes(0, 1, 0), 0);
        due("another", x.strikes(0, 2, 0), 1);
        due("strikes(-1, 0, 1)", x.strikes(-1, 0, 1), BAD);
        due("strikes(2, 0, 1)", x.strikes(2, 0, 1), BAD);
        due("strikes(0, -1, 1)", x.strikes(0, -1, 1), BAD);
        due("strikes(0, 5, 1)", x.strikes(0, 5, 1), BAD);
        due("strikes(0, 1, -1)", x.strikes(0, 1, -1), BAD);
        due("strikes(0, 1, 5)", x.strikes(0, 1, 5), BAD);
        soundSets();
        leastSets();
        fullSets();
    }

    private static void soundSets() {
        promise = 17;
        HeardWords x = new HeardWords();
        charge(x, 3, 1);
        elsewhere(x, 12, 0);
        elsewhere(x, 48, 1);
        against(x, 192, 0);
        int[] sound = {0, 4, 5, 8, 12};
        for (int set = 0; set < 16; set++) {
            int want = 0;
            for (int s : sound) {
                want |= s == set ? 1 : 0;
            }
            due("sound(0, " + set + ")", x.sound(0, set), want);
        }
        x.keep(2);
        due("its striker is kept back", x.sound(0, 1), 1);
        due("itself kept back", x.sound(0, 2), 0);
        due("with one that is kept back", x.sound(0, 6), 0);
        law(x, 1, "g=3");
        due("with one that has too few", x.sound(1, 1), 0);
        due("none", x.sound(1, 0), 1);
        due("words there are not", x.sound(0, 16), BAD);
        due("below 0", x.sound(0, -1), BAD);
        due("sound(-1, 0)", x.sound(-1, 0), BAD);
        due("sound(2, 0)", x.sound(2, 0), BAD);
    }

    private static void leastSets() {
        promise = 18;
        HeardWords x = new HeardWords();
        due("without any", x.least(0), 0);
        charge(x, 3, 1);
        due("one alone", x.least(0), 1);
        elsewhere(x, 12, 0);
        due("struck", x.least(0), 2);
        elsewhere(x, 48, 1);
        due("brought back", x.least(0), 5);
        elsewhere(x, 48, 2);
        elsewhere(x, 48, 3);
        elsewhere(x, 48, 4);
        elsewhere(x, 48, 5);
        due("round upon round", x.least(0), 85);
        x.keep(64);
        due("kept back", x.least(0), 42);
        law(x, 0, "g=3");
        due("too few", x.least(0), 0);
        x = new HeardWords();
        charge(x, 3, 1);
        against(x, 12, 0);
        charge(x, 12, 0);
        due("each strikes the other", x.least(0), 4);
        law(x, 0, "c=1");
        due("the lesser number strikes", x.least(0), 5);
        law(x, 0, "e=1");
        elsewhere(x, 3, 1);
        due("the striker is struck", x.least(0), 13);
        due("least(-1)", x.least(-1), BAD);
        due("least(2)", x.least(2), BAD);
    }

    private static void fullSets() {
        promise = 19;
        HeardWords x = new HeardWords();
        due("without any: the empty one", x.full(0, NONE), 1);
        due("it is empty", x.full(0, 0), 0);
        due("no other", x.full(0, 1), NONE);
        charge(x, 3, 1);
        against(x, 12, 0);
        against(x, 48, 1);
        charge(x, 1, 1);
        due("two", x.full(0, NONE), 2);
        due("by bits", x.full(0, 0), 2);
        due("then", x.full(0, 1), 5);
        due("no third", x.full(0, 2), NONE);
        due("nor a last", x.full(0, Integer.MAX_VALUE), NONE);
        law(x, 1, "g=1;c=1");
        due("the other law", x.full(1, NONE), 1);
        due("it has all that nothing strikes", x.full(1, 0), 13);
        x.keep(2);
        due("kept back", x.full(0, NONE), 1);
        due("all that are heard", x.full(0, 0), 5);
        due("full(0, -2)", x.full(0, -2), BAD);
        due("full(-1, 0)", x.full(-1, 0), BAD);
        due("full(2, 0)", x.full(2, 0), BAD);
        x = new HeardWords();
        for (int i = 0; i < 5; i++) {
            charge(x, 3, 1);
            against(x, 12, 2 * i);
        }
        due("five pairs", x.full(0, NONE), 32);
        due("the first", x.full(0, 0), 0b0101010101);
        due("the last", x.full(0, 31), 0b1010101010);
        due("none behind", x.full(0, 32), NONE);

        promise = 20;
        x = new HeardWords();
        charge(x, 3, 1);
        against(x, 12, 0);
        charge(x, 48, 1);
        charge(x, 1, 1);
        elsewhere(x, 3, 2);
        due("in some", x.firm(0, 0), 1);
        due("in some", x.firm(0, 1), 1);
        due("in none: struck", x.firm(0, 2), 0);
        due("in none: too few", x.firm(0, 3), 0);
        due("in all", x.firm(0, 4), 2);
        HeardWords y = new HeardWords();
        charge(y, 3, 1);
        charge(y, 3, 1);
        due("in the one full set, which is all", y.firm(0, 1), 2);
        law(x, 1, "c=1;g=1");
        due("the other law", x.firm(1, 0), 2);
        due("the other law", x.firm(1, 1), 0);
        due("the other law", x.firm(1, 3), 2);
        x.keep(16);
        due("kept back", x.firm(0, 4), 0);
        due("its striker is kept back", x.firm(0, 2), 2);
        due("firm(-1, 0)", x.firm(-1, 0), BAD);
        due("firm(2, 0)", x.firm(2, 0), BAD);
        due("firm(0, -1)", x.firm(0, -1), BAD);
        due("firm(0, 5)", x.firm(0, 5), BAD);
    }

    // ---- 21 to 26

    private static void wanted() {
        promise = 21;
        HeardWords x = new HeardWords();
        due("without any", x.ring(), 0);
        charge(x, 3, 1);
        against(x, 12, 0);
        elsewhere(x, 48, 1);
        elsewhere(x, 48, 0);
        due("each strikes the other", x.ring(), 3);
        against(x, 12, 3);
        due("two rings", x.ring(), 27);
        x.keep(1);
        due("one of them is kept back", x.ring(), 24);
        law(x, 0, "c=1");
        x.keep(0);
        due("c 1: none comes back", x.ring(), 0);
        law(x, 1, "c=0");
        due("by law 0 alone", x.ring(), 0);
        law(x, 0, "g=3");
        due("too few", x.ring(), 0);
        x = new HeardWords();
        charge(x, 7, 1);
        against(x, 3, 0);
        elsewhere(x, 3, 1);
        against(x, 3, 2);
        law(x, 0, "c=2");
        due("c 2: the greater strikes alone", x.ring(), 12);

        promise = 22;
        x = new HeardWords();
        charge(x, 3, 1);
        elsewhere(x, 1, 0);
        elsewhere(x, 1, 0);
        elsewhere(x, 1, 2);
        elsewhere(x, 1, 1);
        elsewhere(x, 1, 3);
        against(x, 1, 5);
        elsewhere(x, 1, 6);
        int[] chain = {3, 1, 2, 1, 0, 0, 1, 0};
        for (int w = 0; w < 8; w++) {
            due("chain(" + w + ")", x.chain(w), chain[w]);
        }
        x.keep(8);
        due("a link is kept back", x.chain(0), 2);
        x.keep(1);
        due("it is kept back itself; the others are heard", x.chain(0), 3);
        x.keep(0);
        x.road(0, 1, 1);
        due("an hour away", x.chain(0), 3);
        x.word(ELSEWHERE, 1, 1, 1, 2);
        due("not possible", x.chain(2), 2);
        x.word(ELSEWHERE, 1, 2, 0, 5);
        due("one more", x.chain(0), 4);
        due("chain(-1)", x.chain(-1), BAD);
        due("chain(10)", x.chain(10), BAD);

        promise = 23;
        x = new HeardWords();
        charge(x, 3, 1);
        elsewhere(x, 12, 0);
        elsewhere(x, 12, 0);
        against(x, 48, 1);
        against(x, 192, 1);
        due("0 stands not, with or without 1", x.hangs(1), 1);
        due("the first against and the first elsewhere fall: the second undoes nothing else", x.hangs(3), 1);
        due("1 would stand, 3 would not", x.hangs(0), 0);
        due("none hangs on the last", x.hangs(4), 0);
        law(x, 1, "g=4");
        due("by law 0 alone", x.hangs(1), 1);
        x.keep(4);
        due("now 0 falls by 1 alone, and 3 with it", x.hangs(1), 2);
        due("kept back", x.hangs(2), BAD);
        due("hangs(-1)", x.hangs(-1), BAD);
        due("hangs(5)", x.hangs(5), BAD);

        promise = 24;
        due("most hangs on", x.most(), 1);
        x = new HeardWords();
        due("without any", x.most(), NONE);
        charge(x, 3, 1);
        due("one alone", x.most(), 0);
        charge(x, 3, 1);
        elsewhere(x, 12, 0);
        due("one hangs on it", x.most(), 2);
        elsewhere(x, 12, 1);
        due("of like ones the least", x.most(), 2);
        x.keep(4);
        due("one is kept back", x.most(), 3);
        x.keep(9);
        due("the least of those that are heard", x.most(), 1);
        x.keep(15);
        due("all are kept back", x.most(), NONE);
        bringing();
        parting();
    }

    private static void bringing() {
        promise = 25;
        HeardWords x = new HeardWords();
        charge(x, 3, 1);
        elsewhere(x, 12, 0);
        elsewhere(x, 48, 0);
        elsewhere(x, 12, 1);
        elsewhere(x, 48, 2);
        against(x, 48, 2);
        due("it stands, and nothing is kept back", x.brings(0, 0), NONE);
        due("it stands already", x.brings(0, 1), 0);
        x.keep(0b111000);
        due("it wants two, and each of the other has but one that does it", x.brings(0, 1), 0b011000);
        due("it fell already", x.brings(0, 0), 0);
        x.keep(0b111110);
        due("it stands already", x.brings(0, 1), 0);
        due("of like ones the least", x.brings(0, 0), 0b10);
        x.keep(0b111010);
        due("it wants one", x.brings(0, 1), 0b010000);
        law(x, 1, "g=4");
        due("by law 0 alone", x.brings(0, 1), 0b010000);
        law(x, 0, "g=4");
        due("too few: it never stands", x.brings(0, 1), NONE);
        due("too few: it stands not", x.brings(0, 0), 0);
        law(x, 0, "");
        x.keep(0b100001);
        due("kept back", x.brings(0, 0), BAD);
        due("no charge", x.brings(1, 0), BAD);
        due("no charge, kept back", x.brings(5, 0), BAD);
        due("brings(6, 0)", x.brings(6, 0), BAD);
        due("brings(-1, 0)", x.brings(-1, 0), BAD);
        x.keep(0);
        due("brings(0, 2)", x.brings(0, 2), BAD);
        due("brings(0, -1)", x.brings(0, -1), BAD);
        x = new HeardWords();
        charge(x, 3, 1);
        elsewhere(x, 1, 0);
        charge(x, 12, 1);
        x.keep(6);
        due("none can make it fall", x.brings(0, 0), NONE);
        x = new HeardWords();
        charge(x, 3, 1);
        elsewhere(x, 3, 0);
        against(x, 3, 0);
        elsewhere(x, 3, 2);
        elsewhere(x, 3, 1);
        x.keep(0b11000);
        due("fewest goes ahead of least bits", x.brings(0, 1), 0b11000);
        x.keep(0b10000);
        due("the against holds it down: each strikes the other, and that one is struck", x.brings(0, 1), 0b10000);
    }

    private static void parting() {
        promise = 26;
        HeardWords x = new HeardWords();
        due("no words", x.part(), NONE);
        charge(x, 3, 1);
        charge(x, 1, 1);
        charge(x, 1, 1);
        due("the same laws", x.part(), NONE);
        law(x, 1, "g=1");
        due("one word", x.part(), 2);
        x.keep(2);
        due("of those that are heard", x.part(), 4);
        x.keep(6);
        due("none parts them", x.part(), NONE);
        x = new HeardWords();
        charge(x, 3, 1);
        elsewhere(x, 12, 0);
        against(x, 12, 0);
        law(x, 1, "c=1");
        due("a quarrel", x.part(), 5);
        x.keep(1);
        due("about one that is not heard", x.part(), NONE);
        x = new HeardWords();
        charge(x, 3, 1);
        elsewhere(x, 12, 0);
        charge(x, 48, 1);
        charge(x, 5, 1);
        charge(x, 6, 1);
        law(x, 0, "e=1");
        due("who is out", x.part(), 11);
        against(x, 48, 2);
        due("still three", x.part(), 11);
        law(x, 1, "c=2");
        due("of as many both fall, as by c 0", x.part(), 11);
        law(x, 0, "c=1");
        law(x, 1, "c=2");
        due("two are fewer than three", x.part(), 36);
        law(x, 1, "c=9");
        due("with a fault: as without any part", x.part(), 36);
        x = new HeardWords();
        charge(x, 3, 1);
        elsewhere(x, 12, 0);
        charge(x, 13, 1);
        law(x, 0, "e=1;p=1");
        law(x, 1, "e=1");
        due("p alone, by all there are", x.part(), 7);
        law(x, 1, "p=1;e=1");
        due("the same in another order", x.part(), NONE);
    }

    // ---- 27 to 34

    private static void sheets() {
        promise = 27;
        HeardWords x = new HeardWords();
        due("most items", x.sheet(0, 2, 40), 40);
        due("all 0", x.get(0, 2, 39), 0);
        due("above 40", x.sheet(0, 2, 41), BAD);
        due("above 40, far", x.sheet(0, 2, Integer.MAX_VALUE), BAD);
        due("below 0", x.sheet(0, 2, -1), SIZE);
        due("finding", x.count(8), 5);
        due("far below 0", x.sheet(0, 2, Integer.MIN_VALUE), SIZE);
        due("BAD ahead of SIZE", x.sheet(4, 2, -1), BAD);
        due("sheet(-1, 0, 1)", x.sheet(-1, 0, 1), BAD);
        due("form -1", x.sheet(0, -1, 1), BAD);
        due("form 3", x.sheet(0, 3, 1), BAD);
        due("form 3 ahead of SIZE", x.sheet(0, 3, -1), BAD);
        x.put(0, 2, 3, 7);
        due("a refusal changed nothing", x.get(0, 2, 3), 7);
        due("anew", x.sheet(0, 2, 5), 5);
        due("0 at first", x.get(0, 2, 3), 0);
        due("a row of none", x.sheet(3, 0, 0), 0);
        due("it is not lost", x.lose(3), 0);

        promise = 28;
        due("five items", x.lose(0), 5);
        due("lost already", x.lose(0), NULL);
        due("finding", x.count(8), 1);
        due("lost: no item", x.put(0, 2, 0, 1), NULL);
        due("lose(-1)", x.lose(-1), BAD);
        due("lose(4)", x.lose(4), BAD);

        promise = 29;
        x = new HeardWords();
        x.sheet(0, 0, 2);
        x.sheet(1, 1, 2);
        x.sheet(2, 2, 2);
        due("a byte", x.put(0, 0, 1, 127), 1);
        due("it is so", x.get(0, 0, 1), 127);
        x.put(0, 0, 1, 128);
        due("lowest 8 bits", x.get(0, 0, 1), -128);
        x.put(0, 0, 1, 511);
        due("lowest 8 bits of 511", x.get(0, 0, 1), -1);
        x.put(1, 1, 0, 32768);
        due("lowest 16 bits", x.get(1, 1, 0), -32768);
        x.put(1, 1, 0, -32769);
        due("lowest 16 bits of -32769", x.get(1, 1, 0), 32767);
        x.put(2, 2, 0, Integer.MAX_VALUE);
        due("all bits", x.get(2, 2, 0), Integer.MAX_VALUE);
        due("CAST", x.put(0, 1, 0, 1), CAST);
        due("finding", x.count(8), 3);
        due("CAST ahead of INDEX", x.put(0, 2, 2, 1), CAST);
        due("INDEX", x.put(0, 0, 2, 1), INDEX);
        due("finding", x.count(8), 2);
        due("INDEX below 0", x.put(0, 0, -1, 1), INDEX);
        due("INDEX far", x.put(0, 0, Integer.MAX_VALUE, 1), INDEX);
        due("NULL ahead of CAST", x.put(3, 2, 9, 1), NULL);
        due("BAD ahead of NULL", x.put(3, 3, 0, 1), BAD);
        due("put(-1, 0, 0, 0)", x.put(-1, 0, 0, 0), BAD);
        due("put(4, 0, 0, 0)", x.put(4, 0, 0, 0), BAD);
        due("form -1", x.put(0, -1, 0, 0), BAD);
        due("BAD is no finding", x.count(8), 1);
        due("others stay", x.get(0, 0, 0), 0);

        promise = 30;
        due("CAST", x.get(0, 1, 0), LEAST_INT);
        due("tells", x.count(8), 3);
        due("INDEX", x.get(0, 0, 2), LEAST_INT);
        due("tells", x.count(8), 2);
        due("INDEX below 0", x.get(0, 0, -1), LEAST_INT);
        due("CAST ahead of INDEX", x.get(0, 1, 5), LEAST_INT);
        due("tells", x.count(8), 3);
        due("NULL", x.get(3, 0, 0), LEAST_INT);
        due("tells", x.count(8), 1);
        x.get(0, 0, 2);
        due("BAD sheet", x.get(4, 0, 0), LEAST_INT);
        due("BAD sheet", x.get(-1, 0, 0), LEAST_INT);
        due("BAD form", x.get(3, 3, 0), LEAST_INT);
        due("BAD form", x.get(3, -1, 0), LEAST_INT);
        due("BAD is no finding", x.count(8), 2);
        x.put(2, 2, 1, LEAST_INT);
        due("an item that is the least int", x.get(2, 2, 1), LEAST_INT);
        due("is no finding", x.count(8), 2);

        copying();
        writing();
        counting();
    }

    private static void copying() {
        promise = 31;
        HeardWords x = new HeardWords();
        fill(x, 0, 1, 1, 2, 3, 4, 5);
        fill(x, 1, 1, 9, 9, 9);
        due("all of one", x.copy(0, 2, 1, 0, 3), 1);
        due("came", x.get(1, 1, 0) * 100 + x.get(1, 1, 1) * 10 + x.get(1, 1, 2), 345);
        due("stayed", x.get(0, 1, 2), 3);
        due("onto itself, up", x.copy(0, 0, 0, 1, 4), 1);
        due("as they were", x.get(0, 1, 0) * 10000 + x.get(0, 1, 1) * 1000 + x.get(0, 1, 2) * 100 + x.get(0, 1, 3) * 10 + x.get(0, 1, 4), 11234);
        due("onto itself, down", x.copy(0, 2, 0, 0, 3), 1);
        due("as they were", x.get(0, 1, 0) * 10000 + x.get(0, 1, 1) * 1000 + x.get(0, 1, 2) * 100 + x.get(0, 1, 3) * 10 + x.get(0, 1, 4), 23434);
        due("none, at the end", x.copy(0, 5, 1, 3, 0), 1);
        int[][] index = {{-1, 0, 1}, {0, -1, 1}, {0, 0, -1}, {0, 0, 4}, {5, 0, 1}, {0, 3, 1}, {6, 0, 0}, {0, 4, 0}, {3, 0, 3},
            {Integer.MAX_VALUE, 0, 1}, {1, 1, Integer.MAX_VALUE}, {0, Integer.MAX_VALUE, 1}, {0, 0, Integer.MIN_VALUE}};
        for (int[] b : index) {
            due("copy(0, " + b[0] + ", 1, " + b[1] + ", " + b[2] + ")", x.copy(0, b[0], 1, b[1], b[2]), INDEX);
        }
        due("finding", x.count(8), 2);
        x.sheet(2, 2, 3);
        due("STORE", x.copy(0, 0, 2, 0, 1), STORE);
        due("finding", x.count(8), 4);
        due("STORE of none", x.copy(0, 0, 2, 0, 0), STORE);
        due("STORE ahead of INDEX", x.copy(0, 9, 2, -1, 1), STORE);
        due("NULL from", x.copy(3, 0, 2, 0, 1), NULL);
        due("NULL to, ahead of INDEX", x.copy(0, 0, 3, 0, 99), NULL);
        due("finding", x.count(8), 1);
        due("copy from -1", x.copy(-1, 0, 0, 0, 0), BAD);
        due("copy from 4", x.copy(4, 0, 0, 0, 0), BAD);
        due("copy to -1", x.copy(0, 0, -1, 0, 0), BAD);
        due("copy to 4, ahead of NULL", x.copy(3, 0, 4, 0, 0), BAD);
        due("a refusal changed nothing", x.get(1, 1, 0) * 100 + x.get(1, 1, 1) * 10 + x.get(1, 1, 2), 345);
    }

    private static void writing() {
        promise = 32;
        HeardWords x = new HeardWords();
        for (int i = 0; i < 5; i++) {
            charge(x, 513, 99);
        }
        for (int i = 0; i < 5; i++) {
            elsewhere(x, 6, i);
        }
        fill(x, 0, 1, 1, 1, 1, 1, 1, 1, 1, 1, 1, 1, 1, 1);
        due("as many as witnesses", x.write(0), 10);
        int[] want = {495, 0, 0, 0, 0, 0, 0, 0, 0, 495, 1, 1};
        for (int i = 0; i < 12; i++) {
            due("item " + i, x.get(0, 1, i), want[i]);
        }
        x.sheet(1, 2, 3);
        due("as many as items", x.write(1), 3);
        due("ints", x.get(1, 2, 0), 495);
        x.sheet(1, 0, 1);
        due("a byte", x.write(1), 1);
        due("lowest bits", x.get(1, 0, 0), (byte) 495);
        x.sheet(1, 0, 0);
        due("no items", x.write(1), 0);
        law(x, 1, "g=1");
        law(x, 0, "g=4");
        x.write(0);
        due("by law 0", x.get(0, 1, 0), 0);
        due("lost", x.write(2), NULL);
        due("finding", x.count(8), 1);
        due("write(-1)", x.write(-1), BAD);
        due("write(4)", x.write(4), BAD);
    }

    private static void counting() {
        promise = 33;
        HeardWords x = new HeardWords();
        charge(x, 3, 1);
        elsewhere(x, 12, 0);
        x.word(ELSEWHERE, 12, 0, 0, 0);
        elsewhere(x, 12, 1);
        due("words", x.count(0), 4);
        x.keep(10);
        due("kept back", x.count(1), 10);
        due("possible, kept back or not", x.count(5), 10);
        law(x, 0, "g=1");
        law(x, 1, "gg");
        due("bytes of law 0", x.count(2), 3);
        due("bytes of law 1", x.count(3), 2);
        x.road(0, 2, 1);
        x.road(5, 4, 1);
        due("roads", x.count(4), 2);
        x.road(0, 1, 9);
        x.road(1, 0, 8);
        due("a road twice", x.count(4), 3);
        due("possible still", x.count(5), 10);
        due("no finding", x.count(8), 0);
        x.lose(0);
        due("NULL", x.count(8), 1);
        x.sheet(0, 0, -1);
        due("SIZE", x.count(8), 5);
        int[] bad = {-1, 6, 7, 9, Integer.MAX_VALUE, Integer.MIN_VALUE};
        for (int what : bad) {
            due("count(" + what + ")", x.count(what), BAD);
        }

        promise = 34;
        due("a new object", new HeardWords().digest(), fold(0, 0, 0, 0, 0, 0, -1, 2, 0, 0, 0, 0, 0, 0, 0, 1, -1, 2, 0, 0, 0, 0, 0, 0, 0, 1, 0, -1));
        x = new HeardWords();
        x.word(CHARGE, 3, 4, 100, 77);
        x.word(ELSEWHERE, 12, 5, 101, 0);
        x.word(AGAINST, 48, 4, 100, 0);
        x.word(CHARGE, 9, 4, 100, 5);
        x.road(4, 5, 3);
        x.keep(8);
        law(x, 0, "e=1;c=1");
        law(x, 1, "g");
        due("of all", x.digest(), fold(4, 8, 7, 1, 1, 2,
            0, 3, 4, 100, 77, 0, 0,
            2, 12, 5, 101, 0, 0, 1,
            1, 48, 4, 100, 0, 0, 0,
            0, 9, 4, 100, 5, 1, 0,
            -1, 2, 1, 1, 0, 6, 1, 3, 6, 1,
            1, 2, 0, 0, 0, 6, 1, 0, 6, 1,
            0, 1));
        HeardWords y = new HeardWords();
        y.word(CHARGE, 3, 0, 0, 1);
        y.word(AGAINST, 12, 0, 0, 0);
        due("with a ring", y.digest(), fold(2, 0, 0, 0, 0, 0,
            0, 3, 0, 0, 1, 0, 0,
            1, 12, 0, 0, 0, 0, 0,
            -1, 2, 0, 0, 0, 0, 0, 0, 0, 2,
            -1, 2, 0, 0, 0, 0, 0, 0, 0, 2,
            3, 0));
        long before = x.digest();
        x.lose(0);
        x.sheet(0, 0, 3);
        due("neither findings nor sheets are in it", x.digest(), before);
        x.road(0, 1, 1);
        due("roads are in it", before == x.digest() ? 1 : 0, 0);
    }

    private static long fold(long... parts) {
        long h = 17;
        for (long part : parts) {
            h = 31 * h + part;
        }
        return h;
    }
}
