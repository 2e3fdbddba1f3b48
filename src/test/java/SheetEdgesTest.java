import java.math.BigInteger;
import java.util.ArrayList;
import java.util.List;

/** The edges that promises 27 to 34 name: sheets, their findings and which comes first, counts, and the digest. */
public final class SheetEdgesTest {
    private SheetEdgesTest() {
    }

    public static void main(String[] args) {
        sheet();
        lose();
        put();
        lowestBits();
        get();
        copy();
        copyAsTheyWere();
        copyIndex();
        write();
        count();
        digest();
        digestWraps();
        firstThatFits();
        Edges.end("SheetEdgesTest");
    }

    private static void sheet() {
        Edges.by("A SHEET is a new row of a FORM with n items: n. BAD: SHEET, FORM, above 40; SIZE.");
        for (int form = 0; form <= 2; form++) {
            HeardWords x = new HeardWords();
            for (int n : new int[] {0, 1, 39, 40}) {
                Edges.due("sheet(0, " + form + ", " + n + ")", x.sheet(0, form, n), n);
                Edges.due("it has so many", x.lose(0), n);
            }
            int f = form;
            Edges.refusedWith("above 40, of form " + form, Edges::brimful, (y, n) -> y.sheet(0, f, n), Edges.BAD, 41, 42, 256, 65576, Edges.GREATEST_INT);
            Edges.refusedWith("below 0, of form " + form, Edges::brimful, (y, n) -> y.sheet(0, f, n), Edges.SIZE, -1, -2, -216, -65496, Edges.LEAST_INT);
            Edges.refusedWith("below 0, where it was lost", Edges::court, (y, n) -> y.sheet(3, f, n), Edges.SIZE, -1, Edges.LEAST_INT);
        }
        Edges.refusedWith("a sheet there is not, of a size below 0", Edges::court, (y, s) -> y.sheet(s, 0, -1), Edges.BAD, -1, 4);
        Edges.refusedWith("a form there is not, of a size below 0", Edges::court, (y, form) -> y.sheet(0, form, -1), Edges.BAD, -1, 3);
        Edges.refusedWith("a form there is not, where it was lost", Edges::court, (y, form) -> y.sheet(3, form, 1), Edges.BAD, -1, 3);
        HeardWords x = Edges.brimful();
        Edges.due("a new row", x.sheet(0, 1, 40), 40);
        Edges.due("of another form", x.get(0, 1, 0), 0);
        Edges.due("all 0", x.get(0, 1, 39), 0);
        Edges.due("the old form is no more", x.put(0, 0, 0, 1), Edges.CAST);
        Edges.due("a shorter row", x.sheet(1, 1, 39), 39);
        Edges.due("it has no item 39", x.put(1, 1, 39, 1), Edges.INDEX);
        Edges.due("a longer row again", x.sheet(1, 1, 40), 40);
        Edges.due("has it, as 0", x.get(1, 1, 39), 0);
        Edges.due("the others stay", x.get(2, 2, 39), 102);
    }

    private static void lose() {
        Edges.by("It is LOST: how many items it had. BAD; NULL.");
        for (int s = 0; s <= 3; s++) {
            HeardWords x = Edges.brimful();
            Edges.due("lose(" + s + ")", x.lose(s), 40);
            Edges.due("lost", x.lose(s), Edges.NULL);
            Edges.due("count(8)", x.count(8), 1);
            int next = (s + 1) % 4;
            Edges.due("the next is not", x.get(next, Math.min(next, 2), 39), 100 + next);
        }
        HeardWords x = new HeardWords();
        x.sheet(0, 2, 0);
        Edges.due("a row of none", x.lose(0), 0);
        Edges.refused("a lost sheet", Edges::court, y -> y.lose(3), Edges.NULL);
        Edges.refusedWith("a sheet there is not, where all are lost", Edges::bare, (y, s) -> y.lose(s), Edges.BAD, -1, 4);
    }

    private static void put() {
        Edges.by("Item i, treated as of a FORM, becomes v (the lowest bits that it has): 1. BAD; NULL; CAST; INDEX.");
        HeardWords x = Edges.court();
        Edges.due("the first item", x.put(0, 0, 0, 9), 1);
        Edges.due("the last item", x.put(0, 0, 4, 8), 1);
        Edges.due("items", x.get(0, 0, 0) * 10 + x.get(0, 0, 4), 98);
        Edges.due("the one beside it stays", x.get(0, 0, 1), -128);
        Edges.due("no finding", x.count(8), 0);
        Edges.refusedWith("bytes, item", Edges::court, (y, i) -> y.put(0, 0, i, 1), Edges.INDEX, Edges.outside(0, 4));
        Edges.refusedWith("shorts, item", Edges::court, (y, i) -> y.put(1, 1, i, 1), Edges.INDEX, Edges.outside(0, 2));
        Edges.refusedWith("ints, item", Edges::court, (y, i) -> y.put(2, 2, i, 1), Edges.INDEX, Edges.outside(0, 2));
        Edges.refusedWith("forty items, item", Edges::brimful, (y, i) -> y.put(3, 2, i, 1), Edges.INDEX, Edges.outside(0, 39));
        for (int s = 0; s <= 2; s++) {
            for (int form = 0; form <= 2; form++) {
                if (form != s) {
                    int at = s;
                    int as = form;
                    Edges.refused("form " + s + " as " + form, Edges::court, y -> y.put(at, as, 0, 1), Edges.CAST);
                    Edges.refusedWith("form " + s + " as " + form + ", item", Edges::court, (y, i) -> y.put(at, as, i, 1), Edges.CAST, -1, 5);
                }
            }
        }
        Edges.refusedWith("lost, as form", Edges::court, (y, form) -> y.put(3, form, 0, 1), Edges.NULL, 0, 1, 2);
        Edges.refusedWith("lost, item", Edges::court, (y, i) -> y.put(3, 0, i, 1), Edges.NULL, -1, 40);
        Edges.refusedWith("lost, as a form there is not", Edges::court, (y, form) -> y.put(3, form, 0, 1), Edges.BAD, -1, 3);
        Edges.refusedWith("as a form there is not, item 5", Edges::court, (y, form) -> y.put(0, form, 5, 1), Edges.BAD, -1, 3);
        Edges.refused("an item of a row of none", () -> rowOfNone(), y -> y.put(3, 1, 0, 1), Edges.INDEX);
        Edges.refused("a row of none as of another form", () -> rowOfNone(), y -> y.put(3, 2, 0, 1), Edges.CAST);
    }

    private static HeardWords rowOfNone() {
        HeardWords x = Edges.court();
        x.sheet(3, 1, 0);
        return x;
    }

    private static void lowestBits() {
        Edges.by("becomes v (the lowest bits that it has)");
        int[] values = {0, 1, -1, 127, 128, -128, -129, 255, 256, 257, 32767, 32768, -32768, -32769, 65535, 65536, 65537,
            Edges.LEAST_INT, Edges.GREATEST_INT};
        int[] bytes = {0, 1, -1, 127, -128, -128, 127, -1, 0, 1, -1, 0, 0, -1, -1, 0, 1, 0, -1};
        int[] shorts = {0, 1, -1, 127, 128, -128, -129, 255, 256, 257, 32767, -32768, -32768, 32767, -1, 0, 1, 0, -1};
        int[][] want = {bytes, shorts, values};
        HeardWords x = Edges.court();
        for (int form = 0; form <= 2; form++) {
            for (int i = 0; i < values.length; i++) {
                Edges.due("put of " + values[i] + ", form " + form, x.put(form, form, 1, values[i]), 1);
                Edges.due("what became of " + values[i] + ", form " + form, x.get(form, form, 1), want[form][i]);
            }
        }
    }

    private static void get() {
        Edges.by("Item i of it. BAD: the least int; so are NULL, CAST, INDEX (count() 8 tells).");
        HeardWords x = Edges.court();
        Edges.due("the first item", x.get(0, 0, 0), 4);
        Edges.due("the last item", x.get(0, 0, 4), -1);
        Edges.due("the least byte", x.get(0, 0, 1), -128);
        Edges.due("the greatest short", x.get(1, 1, 0), 32767);
        Edges.due("the least short", x.get(1, 1, 1), -32768);
        x.put(2, 2, 0, Edges.LEAST_INT);
        Edges.due("the least int may be an item", x.get(2, 2, 0), Edges.LEAST_INT);
        Edges.due("and is no finding", x.count(8), 0);
        for (int i : Edges.outside(0, 4)) {
            Edges.refusedGet("bytes, item " + i, Edges::court, y -> y.get(0, 0, i), 2);
        }
        for (int i : Edges.outside(0, 2)) {
            Edges.refusedGet("shorts, item " + i, Edges::court, y -> y.get(1, 1, i), 2);
            Edges.refusedGet("ints, item " + i, Edges::court, y -> y.get(2, 2, i), 2);
        }
        Edges.refusedGet("forty items, item 40", Edges::brimful, y -> y.get(3, 2, 40), 2);
        for (int s = 0; s <= 2; s++) {
            for (int form = 0; form <= 2; form++) {
                if (form != s) {
                    int at = s;
                    int as = form;
                    Edges.refusedGet("form " + s + " as " + form, Edges::court, y -> y.get(at, as, 0), 3);
                    Edges.refusedGet("form " + s + " as " + form + ", item -1", Edges::court, y -> y.get(at, as, -1), 3);
                    Edges.refusedGet("form " + s + " as " + form + ", item 5", Edges::court, y -> y.get(at, as, 5), 3);
                }
            }
        }
        Edges.refusedGet("lost", Edges::court, y -> y.get(3, 0, 0), 1);
        Edges.refusedGet("lost, item -1", Edges::court, y -> y.get(3, 2, -1), 1);
        Edges.refusedGet("lost, as a form there is not", Edges::court, y -> y.get(3, 3, 0), 0);
        Edges.refusedGet("as a form there is not, item 5", Edges::court, y -> y.get(0, -1, 5), 0);
        Edges.refusedGet("a sheet there is not", Edges::court, y -> y.get(4, 0, 0), 0);
        Edges.refusedGet("a sheet there is not, where all are lost", Edges::bare, y -> y.get(-1, 0, 0), 0);
        Edges.refusedGet("an item of a row of none", () -> rowOfNone(), y -> y.get(3, 1, 0), 2);
    }

    private static void copy() {
        Edges.by("BAD: the SHEETS; NULL: s, t; STORE; INDEX: below 0, not so many.");
        Edges.refused("from a lost one", Edges::court, y -> y.copy(3, 0, 0, 0, 0), Edges.NULL);
        Edges.refused("to a lost one", Edges::court, y -> y.copy(0, 0, 3, 0, 0), Edges.NULL);
        Edges.refused("a lost one to itself", Edges::court, y -> y.copy(3, 0, 3, 0, 0), Edges.NULL);
        Edges.refused("from a lost one, below 0", Edges::court, y -> y.copy(3, -1, 0, -1, -1), Edges.NULL);
        Edges.refused("to a lost one, too many", Edges::court, y -> y.copy(0, 0, 3, 0, 41), Edges.NULL);
        Edges.refusedWith("from a sheet there is not to a lost one", Edges::court, (y, s) -> y.copy(s, 0, 3, 0, 0), Edges.BAD, -1, 4);
        Edges.refusedWith("from a lost one to a sheet there is not", Edges::court, (y, t) -> y.copy(3, 0, t, 0, 0), Edges.BAD, -1, 4);
        for (int s = 0; s <= 2; s++) {
            for (int t = 0; t <= 2; t++) {
                if (s != t) {
                    int from = s;
                    int to = t;
                    Edges.refused("form " + s + " to " + t, Edges::court, y -> y.copy(from, 0, to, 0, 1), Edges.STORE);
                    Edges.refused("none, of form " + s + " to " + t, Edges::court, y -> y.copy(from, 0, to, 0, 0), Edges.STORE);
                    Edges.refused("below 0, of form " + s + " to " + t, Edges::court, y -> y.copy(from, -1, to, -1, -1), Edges.STORE);
                    Edges.refused("too many, of form " + s + " to " + t, Edges::court, y -> y.copy(from, 0, to, 0, 41), Edges.STORE);
                }
            }
        }
    }

    private static void copyAsTheyWere() {
        Edges.by("n items of SHEET s, from i on, come to SHEET t (perhaps s, as they were), from j on: 1.");
        int[][] moves = {{0, 1, 4}, {1, 0, 4}, {0, 3, 2}, {3, 0, 2}, {0, 0, 5}, {2, 2, 1}, {4, 0, 1}, {0, 4, 1}, {5, 5, 0}, {0, 5, 0}, {5, 0, 0}, {1, 2, 3}};
        String[] want = {"11234", "23455", "12312", "45345", "12345", "12345", "52345", "12341", "12345", "12345", "12345", "12234"};
        for (int form = 0; form <= 2; form++) {
            for (int m = 0; m < moves.length; m++) {
                HeardWords x = new HeardWords();
                Edges.fill(x, 1, form, 1, 2, 3, 4, 5);
                String name = moves[m][2] + " items of itself, from " + moves[m][0] + " to " + moves[m][1];
                Edges.due(name, x.copy(1, moves[m][0], 1, moves[m][1], moves[m][2]), 1);
                Edges.due(name + ": items", digits(x, 1, form, 5), Integer.parseInt(want[m]));
                Edges.fill(x, 1, form, 1, 2, 3, 4, 5);
                x.sheet(2, form, 5);
                Edges.fill(x, 2, form, 9, 9, 9, 9, 9);
                name = moves[m][2] + " items of another, from " + moves[m][0] + " to " + moves[m][1];
                Edges.due(name, x.copy(1, moves[m][0], 2, moves[m][1], moves[m][2]), 1);
                Edges.due(name + ": the first stays", digits(x, 1, form, 5), 12345);
                Edges.due(name + ": items", digits(x, 2, form, 5), moved(moves[m]));
                Edges.due("no finding", x.count(8), 0);
            }
        }
        HeardWords x = Edges.brimful();
        Edges.due("forty ints", x.copy(3, 0, 2, 0, 40), 1);
        Edges.due("the first", x.get(2, 2, 0), -4);
        Edges.due("the last", x.get(2, 2, 39), 103);
    }

    private static int digits(HeardWords x, int s, int form, int n) {
        int all = 0;
        for (int i = 0; i < n; i++) {
            all = 10 * all + x.get(s, form, i);
        }
        return all;
    }

    private static int moved(int[] move) {
        int all = 0;
        for (int i = 0; i < 5; i++) {
            boolean came = i >= move[1] && i < move[1] + move[2];
            all = 10 * all + (came ? 1 + move[0] + i - move[1] : 9);
        }
        return all;
    }

    private static void copyIndex() {
        Edges.by("INDEX: below 0, not so many.");
        int[][] wrong = {{-1, 0, 1}, {0, -1, 1}, {0, 0, -1}, {-1, -1, 0}, {-1, 0, 0}, {0, -1, 0}, {0, 0, 4}, {2, 0, 3}, {4, 0, 1}, {5, 0, 0},
            {0, 1, 3}, {0, 3, 1}, {0, 4, 0}, {1, 1, Edges.GREATEST_INT}, {Edges.GREATEST_INT, 0, 1}, {0, Edges.GREATEST_INT, 1},
            {Edges.GREATEST_INT, Edges.GREATEST_INT, Edges.GREATEST_INT}, {Edges.LEAST_INT, 0, 1}, {0, Edges.LEAST_INT, 1}, {0, 0, Edges.LEAST_INT},
            {Edges.GREATEST_INT, 0, 0}, {1, 1, Edges.LEAST_INT}, {4, 3, -1}};
        for (int[] w : wrong) {
            Edges.refused(w[2] + " items from " + w[0] + " of 4 to " + w[1] + " of 3", SheetEdgesTest::twoRows, y -> y.copy(0, w[0], 1, w[1], w[2]),
                Edges.INDEX);
        }
        int[][] self = {{0, 1, 4}, {1, 0, 4}, {-1, 0, 1}, {0, -1, 1}, {0, 0, 5}, {5, 0, 0}, {0, 5, 0}, {0, 0, -1}};
        for (int[] w : self) {
            Edges.refused(w[2] + " items from " + w[0] + " to " + w[1] + " of 4", SheetEdgesTest::twoRows, y -> y.copy(0, w[0], 0, w[1], w[2]), Edges.INDEX);
        }
        int[][] well = {{0, 0, 3}, {1, 0, 3}, {3, 2, 1}, {4, 3, 0}, {4, 0, 0}, {0, 3, 0}, {0, 0, 0}};
        for (int[] w : well) {
            Edges.due(w[2] + " items from " + w[0] + " of 4 to " + w[1] + " of 3", twoRows().copy(0, w[0], 1, w[1], w[2]), 1);
        }
        HeardWords none = new HeardWords();
        none.sheet(0, 0, 0);
        none.sheet(1, 0, 0);
        Edges.due("none of none", none.copy(0, 0, 1, 0, 0), 1);
        Edges.due("one of none", none.copy(0, 0, 1, 0, 1), Edges.INDEX);
    }

    private static HeardWords twoRows() {
        HeardWords x = new HeardWords();
        Edges.fill(x, 0, 1, 1, 2, 3, 4);
        Edges.fill(x, 1, 1, 7, 8, 9);
        return x;
    }

    private static void write() {
        Edges.by("ON THE HEAD of WITNESSES 0 on, by LAW 0, comes to a SHEET from item 0 on, as many as there are items and WITNESSES (10): "
            + "how many. BAD; NULL.");
        int[] heads = {90, 180, 0, 0, 0, 0, 0, 0, 0, 90};
        for (int form = 0; form <= 2; form++) {
            for (int n : new int[] {0, 1, 2, 9, 10, 11, 40}) {
                HeardWords x = heads();
                x.sheet(0, form, n);
                for (int i = 0; i < n; i++) {
                    x.put(0, form, i, 5);
                }
                Edges.due("write to " + n + " items of form " + form, x.write(0), Math.min(n, 10));
                for (int i = 0; i < n; i++) {
                    int want = i >= 10 ? 5 : form == 0 ? (byte) heads[i] : heads[i];
                    Edges.due("item " + i + " of " + n + ", form " + form, x.get(0, form, i), want);
                }
                Edges.due("it has as many as before", x.lose(0), n);
                Edges.due("no finding", x.count(8), 0);
            }
        }
        HeardWords x = heads();
        Edges.law(x, 1, "g=4");
        x.sheet(0, 2, 1);
        x.write(0);
        Edges.due("by law 0, whatever law 1 says", x.get(0, 2, 0), 90);
        Edges.law(x, 0, "g=4");
        x.write(0);
        Edges.due("by law 0", x.get(0, 2, 0), 0);
        Edges.refused("a lost sheet", Edges::court, y -> y.write(3), Edges.NULL);
        Edges.refusedWith("a sheet there is not", Edges::bare, (y, s) -> y.write(s), Edges.BAD, -1, 4);
    }

    /** On the heads of witnesses 0 and 9 is 90, of witness 1 it is 180, which no byte holds. */
    private static HeardWords heads() {
        HeardWords x = new HeardWords();
        Edges.charge(x, 0b0000000011, 90);
        Edges.charge(x, 0b1000000010, 90);
        Edges.elsewhere(x, 12, 0);
        Edges.elsewhere(x, 12, 1);
        return x;
    }

    private static void count() {
        Edges.by("0 WORDS, 1 those KEPT BACK (bits), 2, 3 bytes of LAWS, 4 ROADS, 5 POSSIBLE ELSEWHERES (bits), "
            + "8 the number of the latest FINDING (0 before any). BAD.");
        HeardWords x = Edges.court();
        int[] want = {6, 0b101000, 7, 6, 3, 0b001010};
        for (int what = 0; what <= 5; what++) {
            Edges.due("count(" + what + ")", x.count(what), want[what]);
        }
        Edges.due("count(8) before any", x.count(8), 0);
        x.lose(3);
        Edges.due("count(8)", x.count(8), 1);
        int[] most = {10, 0, 40, 40, 15, 0b1000100010};
        HeardWords y = Edges.brimful();
        for (int what = 0; what <= 5; what++) {
            Edges.due("count(" + what + ") of all there can be", y.count(what), most[what]);
        }
        Edges.refusedWith("count", Edges::court, (z, what) -> z.count(what), Edges.BAD, -1, 6, 7, 9, 32, 40, 256, 264, 65536, Edges.LEAST_INT,
            Edges.LEAST_INT + 8, Edges.GREATEST_INT);
    }

    private static void digest() {
        Edges.by("h is 17; h becomes 31 h and each of: count() 0 to 5; of each WORD is() 0 to 6; of LAWS fault(), law() 0 to 3, heard() 0 to 2, "
            + "least(), full() NONE; ring(); most()");
        HeardWords none = new HeardWords();
        Edges.due("of a new object", none.digest(), wrapped(parts(none)));
        HeardWords one = new HeardWords();
        Edges.charge(one, 3, 1);
        Edges.due("of one word", one.digest(), wrapped(parts(one)));
        HeardWords x = Edges.court();
        long before = x.digest();
        Edges.due("of some", before, wrapped(parts(x)));
        x.lose(3);
        x.lose(0);
        x.sheet(1, 2, 40);
        Edges.due("sheets and findings are not in it", x.digest(), before);
        Edges.Call[] changes = {y -> y.road(4, 5, 0), y -> y.word(0, 1, 0, 0, 0), y -> y.keep(0), y -> y.type(0, ';'), y -> y.type(1, '1'),
            y -> y.wipe(1)};
        for (int i = 0; i < changes.length; i++) {
            HeardWords y = Edges.court();
            changes[i].on(y);
            Edges.due("change " + i + " shows in it", y.digest() == before ? 1 : 0, 0);
            Edges.due("change " + i, y.digest(), wrapped(parts(y)));
        }
    }

    private static void digestWraps() {
        Edges.by("as longs that wrap.");
        HeardWords x = Edges.brimful();
        Edges.due("of ten words", x.digest(), wrapped(parts(x)));
        x.keep(1023);
        Edges.due("all kept back", x.digest(), wrapped(parts(x)));
        Edges.due("no int", new HeardWords().digest() == (int) new HeardWords().digest() ? 1 : 0, 0);
    }

    /** Whole numbers without an end, of which the lowest 64 bits are taken at last. */
    private static long wrapped(List<Integer> parts) {
        BigInteger h = BigInteger.valueOf(17);
        for (int part : parts) {
            h = h.multiply(BigInteger.valueOf(31)).add(BigInteger.valueOf(part));
        }
        return h.longValue();
    }

    private static List<Integer> parts(HeardWords x) {
        List<Integer> all = new ArrayList<>();
        for (int what = 0; what <= 5; what++) {
            all.add(x.count(what));
        }
        for (int w = 0; w < x.count(0); w++) {
            for (int what = 0; what <= 6; what++) {
                all.add(x.is(w, what));
            }
        }
        for (int law = 0; law <= 1; law++) {
            all.add(x.fault(law));
            for (int which = 0; which <= 3; which++) {
                all.add(x.law(law, which));
            }
            for (int what = 0; what <= 2; what++) {
                all.add(x.heard(law, what));
            }
            all.add(x.least(law));
            all.add(x.full(law, Edges.NONE));
        }
        all.add(x.ring());
        all.add(x.most());
        return all;
    }

    private static void firstThatFits() {
        Edges.by("Refusals, the first that fits, in the order told at each act: BAD -2 (a number not as told, no such thing), NULL, NOT -3 (as told), "
            + "FULL -4, other FINDINGS. They change nothing (FINDINGS but count() 8).");
        Edges.refused("BAD, though full", Edges::brimful, y -> y.word(0, 1, 0, 0, 100), -2);
        Edges.refused("FULL", Edges::brimful, y -> y.word(0, 1, 0, 0, 99), -4);
        Edges.refused("BAD, though full", Edges::brimful, y -> y.type(0, 256), -2);
        Edges.refused("FULL", Edges::brimful, y -> y.type(0, 255), -4);
        Edges.refused("BAD, though more than seven", Edges::brimful, y -> y.orders(0, 10), -2);
        Edges.refused("FULL", Edges::brimful, y -> y.orders(0, 9), -4);
        Edges.refused("BAD, though lost", Edges::court, y -> y.ordered(0, 3, 3), -2);
        Edges.refused("NULL", Edges::court, y -> y.ordered(0, 3, 2), -11);
        Edges.refused("BAD, though items may not be", Edges::court, y -> y.ordered(0, 1, 3), -2);
        Edges.refused("NOT", Edges::court, y -> y.ordered(0, 1, 2), -3);
        Edges.refused("BAD, though below 0", Edges::court, y -> y.sheet(0, 3, -1), -2);
        Edges.refused("SIZE", Edges::court, y -> y.sheet(0, 2, -1), -15);
        Edges.refused("BAD, though lost", Edges::court, y -> y.put(3, 3, -1, 0), -2);
        Edges.refused("NULL, though no such item", Edges::court, y -> y.put(3, 2, -1, 0), -11);
        Edges.refused("CAST, though no such item", Edges::court, y -> y.put(0, 2, -1, 0), -13);
        Edges.refused("INDEX", Edges::court, y -> y.put(0, 0, -1, 0), -12);
        Edges.refused("BAD, though lost", Edges::court, y -> y.copy(3, 0, 4, -1, 0), -2);
        Edges.refused("NULL, though no such items", Edges::court, y -> y.copy(3, 0, 0, -1, 0), -11);
        Edges.refused("STORE, though no such items", Edges::court, y -> y.copy(0, 0, 1, -1, 0), -14);
        Edges.refused("INDEX", Edges::court, y -> y.copy(0, 0, 0, -1, 0), -12);
    }
}
