/** The edges that promises 1 to 26 name: what each call refuses, which refusal comes first, and that it changes nothing. */
public final class CallEdgesTest {
    private CallEdgesTest() {
    }

    public static void main(String[] args) {
        aNewObject();
        road();
        away();
        word();
        wordFull();
        read();
        readWhole();
        readNull();
        is();
        keep();
        type();
        wipe();
        fault();
        law();
        heard();
        ordered();
        orderedInTurn();
        head();
        orders();
        strikes();
        sound();
        least();
        full();
        firm();
        ring();
        chain();
        hangs();
        most();
        brings();
        part();
        askingChangesNothing();
        Edges.end("CallEdgesTest");
    }

    // ---- towns, words

    private static void aNewObject() {
        Edges.by("`HeardWords()`: No WORDS, no ROADS; all SHEETS are LOST.");
        HeardWords x = new HeardWords();
        for (int what = 0; what <= 5; what++) {
            Edges.due("count(" + what + ")", x.count(what), 0);
        }
        Edges.due("count(8)", x.count(8), 0);
        Edges.due("no word 0", x.is(0, 0), Edges.BAD);
        for (int law = 0; law <= 1; law++) {
            Edges.due("law " + law + " is empty", x.wipe(law), 0);
            Edges.due("law " + law + " is well", x.fault(law), Edges.NONE);
        }
        Edges.due("nothing stands", x.heard(0, 0), 0);
        for (int s = 0; s <= 3; s++) {
            int at = s;
            Edges.refused("sheet " + s + " is lost", Edges::bare, y -> y.write(at), Edges.NULL);
        }
        HeardWords other = Edges.brimful();
        other.lose(3);
        x = new HeardWords();
        Edges.due("words of another object are not here", x.count(0), 0);
        Edges.due("nor its roads", x.count(4), 0);
        Edges.due("nor its findings", x.count(8), 0);
        Edges.due("nor its sheets", x.lose(0), Edges.NULL);
    }

    private static void road() {
        Edges.by("A ROAD between two TOWNS takes so many HOURS (0: there is none): what it took. BAD: also a TOWN with itself.");
        HeardWords x = new HeardWords();
        Edges.due("it took none", x.road(0, 5, 99), 0);
        Edges.due("it took 99, seen from the other end", x.road(5, 0, 1), 99);
        Edges.due("it took 1", x.road(0, 5, 0), 1);
        Edges.due("there is none", x.road(0, 5, 0), 0);
        for (int town = 0; town <= 5; town++) {
            int at = town;
            Edges.refusedWith("road of town " + town + " with itself, of hours", Edges::court, (y, hours) -> y.road(at, at, hours), Edges.BAD, 0, 1, 99);
        }
        Edges.refused("all wrong", Edges::court, y -> y.road(-1, 6, 100), Edges.BAD);
    }

    private static void away() {
        Edges.by("How far two TOWNS are AWAY. BAD.");
        HeardWords x = Edges.court();
        Edges.due("a town from itself is not BAD", x.away(5, 5), 0);
        Edges.due("both ways alike", x.away(0, 2) * 1000 + x.away(2, 0), 12012);
        Edges.refused("away(-1, -1)", Edges::court, y -> y.away(-1, -1), Edges.BAD);
        Edges.refused("away(6, 6)", Edges::court, y -> y.away(6, 6), Edges.BAD);
        Edges.refused("away(-1, 6)", Edges::court, y -> y.away(-1, 6), Edges.BAD);
    }

    private static void word() {
        Edges.by("A WORD more; about: the VALUE of a CHARGE, the WORD of others: its number.");
        HeardWords x = new HeardWords();
        Edges.due("its number", x.word(0, 1, 0, 0, 99), 0);
        Edges.due("about is a value: no word 50 is wanted", x.word(0, 1, 0, 0, 50), 1);
        Edges.due("about is a word", x.word(1, 1, 0, 0, 1), 2);
        Edges.due("the next number", x.word(2, 1, 0, 0, 2), 3);
        Edges.refused("against a word there is not, though it would do as a value", Edges::court, y -> y.word(1, 1, 0, 0, 6), Edges.BAD);
        Edges.refused("elsewhere about a word there is not", Edges::court, y -> y.word(2, 1, 0, 0, 99), Edges.BAD);
    }

    private static void wordFull() {
        Edges.by("its number. BAD; FULL.");
        Edges.refused("FULL", Edges::brimful, y -> y.word(0, 1023, 5, 999, 99), Edges.FULL);
        Edges.refused("a kind there is not, of ten", Edges::brimful, y -> y.word(3, 1, 0, 0, 0), Edges.BAD);
        Edges.refused("a group of none, of ten", Edges::brimful, y -> y.word(0, 0, 0, 0, 0), Edges.BAD);
        Edges.refused("a town there is not, of ten", Edges::brimful, y -> y.word(0, 1, 6, 0, 0), Edges.BAD);
        Edges.refused("an hour there is not, of ten", Edges::brimful, y -> y.word(0, 1, 0, 1000, 0), Edges.BAD);
        Edges.refused("a value there is not, of ten", Edges::brimful, y -> y.word(0, 1, 0, 0, 100), Edges.BAD);
        Edges.refused("about itself, of ten", Edges::brimful, y -> y.word(1, 1, 0, 0, 10), Edges.BAD);
    }

    private static void read() {
        Edges.by("WORDS of a SHEET: its items, five for each (as word()), as many as are whole, as long as each may be: how many.");
        int[] sizes = {0, 1, 4, 5, 6, 9, 10, 14, 15, 39, 40};
        int[] whole = {0, 0, 0, 1, 1, 1, 2, 2, 3, 7, 8};
        for (int form = 0; form <= 2; form++) {
            for (int i = 0; i < sizes.length; i++) {
                HeardWords x = new HeardWords();
                Edges.fill(x, 0, form, 0, 1, 2, 3, 4);
                x.sheet(1, form, sizes[i]);
                for (int at = 0; at < sizes[i]; at += 5) {
                    x.copy(0, 0, 1, at, Math.min(5, sizes[i] - at));
                }
                Edges.due("read of " + sizes[i] + " items", x.read(1), whole[i]);
                Edges.due("words told", x.count(0), whole[i]);
                Edges.due("the sheet is as it was", x.lose(1), sizes[i]);
                Edges.due("no finding", x.count(8), 0);
            }
        }
        HeardWords x = new HeardWords();
        Edges.fill(x, 0, 1, 0, 1023, 5, 999, 99);
        Edges.due("a sheet of shorts", x.read(0), 1);
        int[] want = {0, 1023, 5, 999, 99, 0, 0};
        for (int what = 0; what <= 6; what++) {
            Edges.due("is(0, " + what + ")", x.is(0, what), want[what]);
        }
    }

    private static void readWhole() {
        Edges.by("as long as each may be: how many.");
        int[][] wrong = {{3, 1, 0, 0, 0}, {-1, 1, 0, 0, 0}, {0, 0, 0, 0, 0}, {0, 1024, 0, 0, 0}, {0, 1, 6, 0, 0}, {0, 1, -1, 0, 0},
            {0, 1, 0, 1000, 0}, {0, 1, 0, -1, 0}, {0, 1, 0, 0, 100}, {0, 1, 0, 0, -1}, {1, 1, 0, 0, 1}, {2, 1, 0, 0, 1}, {1, 1, 0, 0, -1}};
        for (int[] w : wrong) {
            HeardWords x = new HeardWords();
            Edges.fill(x, 0, 2, 0, 1, 0, 0, 7, w[0], w[1], w[2], w[3], w[4], 0, 1, 0, 0, 8);
            String name = "a second word of kind " + w[0] + ", group " + w[1] + ", town " + w[2] + ", hour " + w[3] + ", about " + w[4];
            Edges.due(name, x.read(0), 1);
            Edges.due(name + ": words", x.count(0), 1);
            Edges.due(name + ": the one ahead stays", x.is(0, 4), 7);
            Edges.due(name + ": no finding", x.count(8), 0);
        }
        HeardWords x = new HeardWords();
        Edges.fill(x, 0, 0, 1, 1, 0, 0, 0, 0, 1, 0, 0, 0);
        Edges.due("the first may not be, though it would behind the second", x.read(0), 0);
        Edges.fill(x, 0, 0, 0, 1, 0, 0, 0, 1, 1, 0, 0, 0, 2, 1, 0, 0, 1);
        Edges.due("each is about the one ahead, on the same sheet", x.read(0), 3);
        Edges.due("what the last is about", x.is(2, 4), 1);
        Edges.fill(x, 0, 0, 0, 127, 0, 0, 0, 0, 128, 0, 0, 0);
        Edges.due("a byte of 128 is below 0", x.read(0), 1);
        x = new HeardWords();
        for (int w = 0; w < 8; w++) {
            Edges.charge(x, 1, 0);
        }
        Edges.fill(x, 0, 0, 0, 1, 0, 0, 1, 0, 1, 0, 0, 2, 0, 1, 0, 0, 3);
        Edges.due("two more are ten", x.read(0), 2);
        Edges.due("ten", x.count(0), 10);
        Edges.due("the tenth", x.is(9, 4), 2);
        Edges.due("none more", x.read(0), 0);
        Edges.due("still ten", x.count(0), 10);
        Edges.due("no finding", x.count(8), 0);
    }

    private static void readNull() {
        Edges.by("as long as each may be: how many. BAD; NULL.");
        Edges.refused("a lost sheet", Edges::court, y -> y.read(3), Edges.NULL);
        Edges.refused("any sheet of a new object", Edges::bare, y -> y.read(0), Edges.NULL);
        Edges.refusedWith("read", Edges::bare, (y, s) -> y.read(s), Edges.BAD, -1, 4);
        HeardWords x = Edges.court();
        x.sheet(3, 0, 0);
        Edges.due("a row of none is not lost", x.read(3), 0);
    }

    private static void is() {
        Edges.by("Of a WORD: 0 KIND, 1 GROUP, 2 TOWN, 3 HOUR, 4 VALUE or the WORD it is about, 5 whether it is KEPT BACK, "
            + "6 whether it is POSSIBLE (0 of others). BAD.");
        HeardWords x = Edges.court();
        int[][] want = {{0, 3, 0, 10, 20, 0, 0}, {2, 12, 1, 10, 0, 0, 1}, {1, 48, 0, 10, 0, 0, 0}, {2, 192, 3, 12, 1, 1, 1},
            {0, 7, 2, 999, 99, 0, 0}, {1, 3, 0, 0, 4, 1, 0}};
        for (int w = 0; w < want.length; w++) {
            for (int what = 0; what <= 6; what++) {
                Edges.due("is(" + w + ", " + what + ")", x.is(w, what), want[w][what]);
            }
        }
        Edges.refusedWith("is(word, 0)", Edges::court, (y, word) -> y.is(word, 0), Edges.BAD, Edges.outside(0, 5));
        Edges.refusedWith("is(0, what)", Edges::court, (y, what) -> y.is(0, what), Edges.BAD, Edges.outside(0, 6));
        Edges.refusedWith("is(word, 6) of ten", Edges::brimful, (y, word) -> y.is(word, 6), Edges.BAD, Edges.outside(0, 9));
        Edges.refused("is(0, 0) of none", Edges::bare, y -> y.is(0, 0), Edges.BAD);
        Edges.refused("both wrong", Edges::court, y -> y.is(6, 7), Edges.BAD);
    }

    private static void keep() {
        Edges.by("WORDS (bits) that are KEPT BACK: which were. BAD: WORDS there are not.");
        HeardWords x = Edges.court();
        Edges.due("two were", x.keep(63), 0b101000);
        Edges.due("all were; a new set takes the place of the old one", x.keep(1), 63);
        Edges.due("one was", x.keep(0), 1);
        Edges.due("none was", x.keep(0), 0);
        Edges.refusedWith("keep, of six", Edges::court, (y, words) -> y.keep(words), Edges.BAD, 64, 65, 127, 512, 1024, -1, -64, 1 << 31, 1 << 30,
            Edges.GREATEST_INT);
        Edges.due("none, of none", new HeardWords().keep(0), 0);
        Edges.refusedWith("keep, of none", Edges::bare, (y, words) -> y.keep(words), Edges.BAD, 1, -1, 1 << 31);
        HeardWords ten = Edges.brimful();
        Edges.due("all ten", ten.keep(1023), 0);
        Edges.due("all ten were", ten.keep(512), 1023);
        Edges.refusedWith("keep, of ten", Edges::brimful, (y, words) -> y.keep(words), Edges.BAD, 1024, 2047, -1, 1 << 31);
    }

    // ---- laws

    private static void type() {
        Edges.by("A byte (0 to 255) comes behind a LAW: how many. BAD; FULL.");
        HeardWords x = new HeardWords();
        Edges.due("byte 0", x.type(0, 0), 1);
        Edges.due("byte 255", x.type(0, 255), 2);
        Edges.due("byte 255 is not 0", x.type(1, 255) * 10 + x.fault(1), 10);
        Edges.refusedWith("type(0, b)", Edges::court, (y, b) -> y.type(0, b), Edges.BAD, Edges.outside(0, 255));
        Edges.refusedWith("type(1, b)", Edges::court, (y, b) -> y.type(1, b), Edges.BAD, '1' + 256, '1' - 256, -1, 256);
        Edges.refused("the forty-first", Edges::brimful, y -> y.type(0, 0), Edges.FULL);
        Edges.refused("the forty-first of the other", Edges::brimful, y -> y.type(1, 255), Edges.FULL);
        Edges.refused("a byte there is not, behind forty", Edges::brimful, y -> y.type(0, 256), Edges.BAD);
        Edges.refused("a byte below 0, behind forty", Edges::brimful, y -> y.type(1, -1), Edges.BAD);
        Edges.refused("a law there is not", Edges::brimful, y -> y.type(2, 0), Edges.BAD);
        x = new HeardWords();
        Edges.law(x, 1, "g=1;g=2;g=3;g=4;g=1;g=2;g=3;g=4;g=1;c=2");
        Edges.due("the fortieth", x.type(1, ';'), 40);
        Edges.due("the next", x.type(1, 'c'), Edges.FULL);
        Edges.due("forty", x.count(3), 40);
    }

    private static void wipe() {
        Edges.by("A LAW is empty: how many bytes it had. BAD.");
        HeardWords x = Edges.brimful();
        Edges.due("forty", x.wipe(0), 40);
        Edges.due("none any more", x.wipe(0), 0);
        Edges.due("the other has its own", x.wipe(1), 40);
        Edges.due("it may be written again", x.type(0, 'g'), 1);
        x = Edges.court();
        Edges.due("seven", x.wipe(0), 7);
        Edges.due("as without any part", x.law(0, 2), 0);
        Edges.refusedWith("wipe", Edges::brimful, (y, law) -> y.wipe(law), Edges.BAD, -1, 2);
    }

    private static void fault() {
        Edges.by("The FAULT of a LAW; NONE. BAD.");
        HeardWords x = Edges.court();
        Edges.due("none", x.fault(0), Edges.NONE);
        Edges.due("behind the last byte", x.fault(1), 6);
        x = Edges.brimful();
        Edges.due("behind forty bytes", x.fault(0), 40);
        Edges.due("the fortieth byte", x.fault(1), 39);
        Edges.refusedWith("fault", Edges::brimful, (y, law) -> y.fault(law), Edges.BAD, -1, 2);
    }

    private static void law() {
        Edges.by("Of a LAW: g (0), c (1), e (2), p (3). BAD.");
        HeardWords x = new HeardWords();
        Edges.law(x, 0, "g=4;c=2;e=1;p=0");
        Edges.law(x, 1, "g=1;c=1;e=0;p=1");
        int[][] want = {{4, 2, 1, 0}, {1, 1, 0, 1}};
        for (int law = 0; law <= 1; law++) {
            for (int which = 0; which <= 3; which++) {
                Edges.due("law(" + law + ", " + which + ")", x.law(law, which), want[law][which]);
            }
        }
        Edges.refusedWith("law(0, which)", Edges::court, (y, which) -> y.law(0, which), Edges.BAD, Edges.outside(0, 3));
        Edges.refused("both wrong", Edges::court, y -> y.law(2, 4), Edges.BAD);
    }

    // ---- heard in an order

    private static void heard() {
        Edges.by("HEARD by a LAW, by numbers: WORDS that stand (what = 0), that were UNDONE (1), WITNESSES that are OUT (2); bits. BAD.");
        HeardWords x = Edges.court();
        Edges.due("stand", x.heard(0, 0), 0b000110);
        Edges.due("undone", x.heard(0, 1), 1);
        Edges.due("out", x.heard(0, 2), 3);
        Edges.due("by the other law: stand", x.heard(1, 0), 0b010110);
        Edges.due("by the other law: out", x.heard(1, 2), 0);
        Edges.refusedWith("heard(0, what)", Edges::court, (y, what) -> y.heard(0, what), Edges.BAD, Edges.outside(0, 2));
        Edges.refusedWith("heard(0, what) of none", Edges::bare, (y, what) -> y.heard(0, what), Edges.BAD, -1, 3);
    }

    private static void ordered() {
        Edges.by("HEARD in the ORDER of a SHEET (all its items, WORDS, none twice, none KEPT BACK; others are not heard), likewise.");
        HeardWords x = Edges.court();
        Edges.due("no item", Edges.inOrder(x, 0, 0), 0);
        Edges.due("one item", Edges.inOrder(x, 0, 0, 4), 16);
        Edges.due("all that may be heard: the first quarrels with its foe as it comes", Edges.inOrder(x, 0, 0, 4, 2, 1, 0), 0b010010);
        Edges.due("undone", Edges.inOrder(x, 0, 1, 4, 1, 0), 1);
        Edges.due("out", Edges.inOrder(x, 0, 2, 4, 1, 0), 3);
        Edges.due("likewise by the other law", x.ordered(1, 3, 2), 0);
        Edges.due("a sheet of ints", x.ordered(0, 2, 0), 16);
        for (int form = 0; form <= 2; form++) {
            HeardWords y = new HeardWords();
            for (int w = 0; w < 10; w++) {
                Edges.charge(y, 3, 1);
            }
            Edges.fill(y, 0, form, 9, 0, 8, 1, 7, 2, 6, 3, 5, 4);
            Edges.due("ten items of form " + form, y.ordered(0, 0, 0), 1023);
            Edges.fill(y, 0, form, 9, 0, 8, 1, 7, 2, 6, 3, 5, 4, 4);
            Edges.due("eleven items of form " + form, y.ordered(0, 0, 0), Edges.NOT);
        }
        int[] words = Edges.outside(0, 5);
        for (int word : words) {
            Edges.refused("item " + word + " alone", () -> orderOf(2, word), y -> y.ordered(0, 3, 0), Edges.NOT);
            Edges.refused("item " + word + " last", () -> orderOf(2, 0, word), y -> y.ordered(0, 3, 0), Edges.NOT);
            Edges.refused("item " + word + " first", () -> orderOf(2, word, 0), y -> y.ordered(0, 3, 0), Edges.NOT);
        }
        Edges.refused("a short of 65536 - 1", () -> orderOf(1, 65535), y -> y.ordered(0, 3, 0), Edges.NOT);
        Edges.refused("a word twice", () -> orderOf(0, 0, 1, 0), y -> y.ordered(0, 3, 0), Edges.NOT);
        Edges.refused("a word twice, one behind the other", () -> orderOf(0, 4, 4), y -> y.ordered(0, 3, 1), Edges.NOT);
        Edges.refused("a word that is kept back", () -> orderOf(0, 0, 3), y -> y.ordered(0, 3, 0), Edges.NOT);
        Edges.refused("another word that is kept back", () -> orderOf(0, 5), y -> y.ordered(1, 3, 2), Edges.NOT);
        Edges.refused("an item of a row of forty", Edges::brimful, y -> y.ordered(0, 0, 0), Edges.NOT);
    }

    private static HeardWords orderOf(int form, int... items) {
        HeardWords x = Edges.court();
        Edges.fill(x, 3, form, items);
        return x;
    }

    private static void orderedInTurn() {
        Edges.by("BAD; NULL; NOT: items that may not be.");
        Edges.refused("NULL", Edges::court, y -> y.ordered(0, 3, 0), Edges.NULL);
        Edges.refusedWith("what", Edges::court, (y, what) -> y.ordered(0, 2, what), Edges.BAD, Edges.outside(0, 2));
        Edges.refusedWith("what, of a lost sheet", Edges::court, (y, what) -> y.ordered(0, 3, what), Edges.BAD, -1, 3);
        Edges.refusedWith("a law there is not, and a lost sheet", Edges::court, (y, law) -> y.ordered(law, 3, 0), Edges.BAD, -1, 2);
        Edges.refusedWith("what, of items that may not be", Edges::court, (y, what) -> y.ordered(0, 1, what), Edges.BAD, -1, 3);
        Edges.refusedWith("a law there is not, and items that may not be", Edges::court, (y, law) -> y.ordered(law, 1, 0), Edges.BAD, -1, 2);
        Edges.refused("NOT", Edges::court, y -> y.ordered(0, 1, 0), Edges.NOT);
        HeardWords x = new HeardWords();
        x.sheet(0, 0, 1);
        Edges.due("NOT, with no words at all", x.ordered(0, 0, 0), Edges.NOT);
        x.sheet(0, 0, 0);
        Edges.due("no items, with no words at all", x.ordered(0, 0, 0), 0);
    }

    private static void head() {
        Edges.by("ON THE HEAD of a WITNESS, by numbers. BAD.");
        HeardWords x = Edges.court();
        int[] want = {20, 20, 0, 0, 0, 0, 0, 0, 0, 0};
        for (int witness = 0; witness <= 9; witness++) {
            Edges.due("head(0, " + witness + ")", x.head(0, witness), want[witness]);
        }
        Edges.refusedWith("head(0, witness)", Edges::court, (y, witness) -> y.head(0, witness), Edges.BAD, Edges.outside(0, 9));
        Edges.refusedWith("head(0, witness) of none", Edges::bare, (y, witness) -> y.head(0, witness), Edges.BAD, -1, 10);
        Edges.due("head(0, 9) of none", new HeardWords().head(0, 9), 0);
    }

    private static void orders() {
        Edges.by("In how many ORDERS a WORD stands (word = NONE: how many there are). BAD; FULL.");
        HeardWords x = Edges.court();
        Edges.due("how many there are", x.orders(0, Edges.NONE), 24);
        Edges.due("the last word", x.orders(1, 4), 24);
        Edges.refusedWith("orders(0, word)", Edges::court, (y, word) -> y.orders(0, word), Edges.BAD, -2, 6, 32, 256, Edges.LEAST_INT, Edges.GREATEST_INT);
        Edges.refused("orders(0, 0) of none", Edges::bare, y -> y.orders(0, 0), Edges.BAD);
        Edges.refused("FULL", Edges::brimful, y -> y.orders(0, 0), Edges.FULL);
        Edges.refused("FULL: how many", Edges::brimful, y -> y.orders(1, Edges.NONE), Edges.FULL);
        Edges.refused("a word there is not, of ten", Edges::brimful, y -> y.orders(0, 10), Edges.BAD);
        Edges.refused("below NONE, of ten", Edges::brimful, y -> y.orders(0, -2), Edges.BAD);
        Edges.refused("a law there is not, of ten", Edges::brimful, y -> y.orders(2, 0), Edges.BAD);
        Edges.refused("a law below 0, of ten: how many", Edges::brimful, y -> y.orders(-1, Edges.NONE), Edges.BAD);
    }

    // ---- heard at once

    private static void strikes() {
        Edges.by("Whether a WORD STRIKES another one: 1, 0. BAD.");
        HeardWords x = Edges.court();
        Edges.due("it does", x.strikes(0, 1, 0), 1);
        Edges.due("it does not", x.strikes(0, 0, 1), 0);
        Edges.due("nor does one that is kept back", x.strikes(0, 3, 1), 0);
        Edges.due("nor is one that is kept back struck", x.strikes(0, 4, 5), 0);
        Edges.refusedWith("strikes(0, word, 0)", Edges::court, (y, word) -> y.strikes(0, word, 0), Edges.BAD, Edges.outside(0, 5));
        Edges.refusedWith("strikes(0, 1, other)", Edges::court, (y, other) -> y.strikes(0, 1, other), Edges.BAD, Edges.outside(0, 5));
        Edges.refused("strikes(0, 0, 0) of none", Edges::bare, y -> y.strikes(0, 0, 0), Edges.BAD);
    }

    private static void sound() {
        Edges.by("Whether a set of WORDS (bits) is SOUND: 1, 0. BAD: WORDS there are not.");
        HeardWords x = Edges.court();
        Edges.due("none", x.sound(0, 0), 1);
        Edges.due("it is", x.sound(0, 0b010010), 1);
        Edges.due("it is not", x.sound(0, 0b000011), 0);
        Edges.refusedWith("sound(0, words), of six", Edges::court, (y, words) -> y.sound(0, words), Edges.BAD, 64, 66, 512, -1, 1 << 31, Edges.GREATEST_INT);
        Edges.refusedWith("sound(0, words), of none", Edges::bare, (y, words) -> y.sound(0, words), Edges.BAD, 1, -1);
        Edges.refusedWith("sound(0, words), of ten", Edges::brimful, (y, words) -> y.sound(0, words), Edges.BAD, 1024, -1);
        Edges.due("all ten are words there are", Edges.brimful().sound(0, 1023), 0);
    }

    private static void least() {
        Edges.by("LEAST, as bits. BAD.");
        Edges.due("of none", new HeardWords().least(1), 0);
        Edges.due("of some", Edges.court().least(0), 0b010110);
        Edges.refusedWith("least", Edges::brimful, (y, law) -> y.least(law), Edges.BAD, -1, 2);
    }

    private static void full() {
        Edges.by("FULL SETS: how many (i = NONE), the i-th, as bits; NONE. BAD.");
        HeardWords x = new HeardWords();
        Edges.charge(x, 3, 1);
        Edges.against(x, 12, 0);
        Edges.due("how many", x.full(0, Edges.NONE), 2);
        Edges.due("the first", x.full(0, 0), 1);
        Edges.due("the last", x.full(0, 1), 2);
        Edges.due("none behind it", x.full(0, 2), Edges.NONE);
        Edges.due("none far behind it", x.full(0, 1024), Edges.NONE);
        Edges.due("none at the greatest int", x.full(0, Edges.GREATEST_INT), Edges.NONE);
        Edges.due("of none: the first is empty", new HeardWords().full(0, 0), 0);
        Edges.due("of none: no second", new HeardWords().full(0, 1), Edges.NONE);
        Edges.refusedWith("full(0, i)", Edges::court, (y, i) -> y.full(0, i), Edges.BAD, -2, -3, Edges.LEAST_INT);
        Edges.refusedWith("full(law, 9999)", Edges::court, (y, law) -> y.full(law, 9999), Edges.BAD, -1, 2);
    }

    private static void firm() {
        Edges.by("FIRM: 2, 1, 0. BAD.");
        HeardWords x = Edges.court();
        Edges.due("in all", x.firm(0, 1), 2);
        Edges.due("in none", x.firm(0, 0), 0);
        Edges.refusedWith("firm(0, word)", Edges::court, (y, word) -> y.firm(0, word), Edges.BAD, Edges.outside(0, 5));
        Edges.refused("firm(0, 0) of none", Edges::bare, y -> y.firm(0, 0), Edges.BAD);
        Edges.refused("firm(0, 10) of ten", Edges::brimful, y -> y.firm(0, 10), Edges.BAD);
    }

    // ---- rings, chains, what is wanted

    private static void ring() {
        Edges.by("RING, as bits.");
        Edges.due("of none", new HeardWords().ring(), 0);
        Edges.due("of some", Edges.court().ring(), 0b000101);
    }

    private static void chain() {
        Edges.by("`int chain(int word)`: CHAIN. BAD.");
        HeardWords x = Edges.court();
        Edges.due("one", x.chain(0), 1);
        Edges.due("none, as the only one is kept back", x.chain(1), 0);
        Edges.due("of the last word", x.chain(5), 0);
        Edges.refusedWith("chain", Edges::court, (y, word) -> y.chain(word), Edges.BAD, Edges.outside(0, 5));
        Edges.refused("chain(0) of none", Edges::bare, y -> y.chain(0), Edges.BAD);
        Edges.refused("chain(10) of ten", Edges::brimful, y -> y.chain(10), Edges.BAD);
    }

    private static void hangs() {
        Edges.by("HANGS. BAD: also a WORD that is KEPT BACK.");
        HeardWords x = Edges.court();
        Edges.due("two", x.hangs(1), 2);
        Edges.due("the last that is heard", x.hangs(4), 0);
        Edges.refused("one that is kept back", Edges::court, y -> y.hangs(3), Edges.BAD);
        Edges.refused("another that is kept back", Edges::court, y -> y.hangs(5), Edges.BAD);
        Edges.refusedWith("hangs", Edges::court, (y, word) -> y.hangs(word), Edges.BAD, Edges.outside(0, 5));
        Edges.refused("hangs(0) of none", Edges::bare, y -> y.hangs(0), Edges.BAD);
        Edges.refused("hangs(10) of ten", Edges::brimful, y -> y.hangs(10), Edges.BAD);
    }

    private static void most() {
        Edges.by("`int most()`: MOST; NONE.");
        Edges.due("of none", new HeardWords().most(), Edges.NONE);
        Edges.due("of some", Edges.court().most(), 1);
        HeardWords x = Edges.court();
        x.keep(63);
        Edges.due("all are kept back", x.most(), Edges.NONE);
    }

    private static void brings() {
        Edges.by("BRINGS, as bits; NONE. BAD: also a WORD that is no CHARGE, or is KEPT BACK.");
        HeardWords x = Edges.court();
        Edges.due("up 0", x.brings(0, 0), 0);
        Edges.due("up 1: its foe holds it down still", x.brings(0, 1), Edges.NONE);
        Edges.due("the last charge, up 0", x.brings(4, 0), 0b100000);
        Edges.due("the last charge, up 1", x.brings(4, 1), 0);
        Edges.refused("an elsewhere", Edges::court, y -> y.brings(1, 0), Edges.BAD);
        Edges.refused("an against", Edges::court, y -> y.brings(2, 1), Edges.BAD);
        Edges.refused("an elsewhere that is kept back", Edges::court, y -> y.brings(3, 0), Edges.BAD);
        Edges.refused("an against that is kept back", Edges::court, y -> y.brings(5, 0), Edges.BAD);
        Edges.refusedWith("brings(word, 0)", Edges::court, (y, word) -> y.brings(word, 0), Edges.BAD, Edges.outside(0, 5));
        Edges.refusedWith("brings(0, up)", Edges::court, (y, up) -> y.brings(0, up), Edges.BAD, Edges.outside(0, 1));
        Edges.refused("a charge that is kept back, up 0", CallEdgesTest::chargesKeptBack, y -> y.brings(0, 0), Edges.BAD);
        Edges.refused("a charge that is kept back, up 1", CallEdgesTest::chargesKeptBack, y -> y.brings(4, 1), Edges.BAD);
        Edges.refused("brings(0, 0) of none", Edges::bare, y -> y.brings(0, 0), Edges.BAD);
    }

    private static HeardWords chargesKeptBack() {
        HeardWords x = Edges.court();
        x.keep(0b010001);
        return x;
    }

    private static void part() {
        Edges.by("`int part()`: PART, as bits; NONE.");
        Edges.due("of none", new HeardWords().part(), Edges.NONE);
        Edges.due("of some", Edges.court().part(), 0b010011);
        HeardWords x = Edges.court();
        x.keep(63);
        Edges.due("all are kept back", x.part(), Edges.NONE);
    }

    private static void askingChangesNothing() {
        Edges.by("Nothing is promised beyond the answers and state changes described above");
        Edges.Call[] calls = {y -> y.away(0, 5), y -> y.is(0, 4), y -> y.fault(0), y -> y.law(0, 0), y -> y.heard(0, 0), y -> y.ordered(0, 2, 0),
            y -> y.head(0, 0), y -> y.orders(0, 0), y -> y.orders(0, Edges.NONE), y -> y.strikes(0, 1, 0), y -> y.sound(0, 2), y -> y.least(0),
            y -> y.full(0, 0), y -> y.firm(0, 0), y -> y.ring(), y -> y.chain(0), y -> y.hangs(0), y -> y.most(), y -> y.brings(0, 1),
            y -> y.part(), y -> y.get(0, 0, 0), y -> y.count(0), y -> y.digest()};
        for (int i = 0; i < calls.length; i++) {
            Edges.changesNothing("asking " + i + " in a court", Edges::court, calls[i]);
            Edges.changesNothing("asking " + i + " of ten words", Edges::brimful, calls[i]);
        }
    }
}
