/** The edges that the document's terms name: of words heard in an order, in all orders, at once, and of what is wanted. */
public final class HearingEdgesTest {
    private HearingEdgesTest() {
    }

    public static void main(String[] args) {
        able();
        notAble();
        whoQuarrels();
        quarrelsOfTwo();
        allOfItCounted();
        quarrelsInTurn();
        undone();
        undoneItself();
        outFromThenOn();
        standsNotAgain();
        onTheHead();
        allThatAreHeard();
        ordersAtMost();
        enoughAtOnce();
        elsewheresStrike();
        whoStrikes();
        soundSets();
        leastSets();
        fullSets();
        firmWords();
        rings();
        chains();
        hanging();
        mostHanging();
        bringing();
        parting();
        Edges.end("HearingEdgesTest");
    }

    // ---- heard in an order

    private static void able() {
        Edges.by("one is ABLE, if g or more of its GROUP are not OUT, and (with p 0) none of it is.");
        int[] groups = {1, 3, 7, 15, 31, 1023};
        int[] standing = {63, 62, 60, 56};
        HeardWords x = new HeardWords();
        for (int group : groups) {
            Edges.charge(x, group, 1);
        }
        Edges.due("two are enough without any part", x.heard(0, 0), 62);
        for (int g = 1; g <= 4; g++) {
            Edges.law(x, 0, "g=" + g);
            Edges.due("g " + g + ": as many are enough, one less is not", x.heard(0, 0), standing[g - 1]);
        }
        HeardWords out = witnessesOut();
        out.word(0, 0b0000000101, 0, 0, 1);
        out.word(0, 0b1111110001, 0, 0, 1);
        out.word(0, 0b0000110001, 0, 0, 1);
        out.word(0, 0b0000010001, 0, 0, 1);
        out.word(0, 0b0000110011, 0, 0, 1);
        out.word(0, 0b0000110000, 0, 0, 1);
        Edges.law(out, 0, "e=1");
        Edges.due("witnesses 0 and 1 are out", out.heard(0, 2), 3);
        Edges.due("p 0: one of it that is out is too many", out.heard(0, 0), 0b10000010);
        Edges.law(out, 0, "e=1;p=1");
        Edges.due("p 1: two that are not out are enough, one is not", out.heard(0, 0), 0b11011010);
        Edges.law(out, 0, "e=1;p=1;g=1");
        Edges.due("p 1, g 1: one that is not out is enough", out.heard(0, 0), 0b11111110);
        out.word(0, 0b0000000011, 0, 0, 1);
        Edges.due("p 1, g 1: none is left", out.heard(0, 0), 0b011111110);
        Edges.law(out, 0, "p=1");
        Edges.due("e 0: none is out", out.heard(0, 2), 0);
        Edges.due("e 0: all have two or more", out.heard(0, 0), 0b111111110);
    }

    /** By e 1 witnesses 0 and 1 are out behind word 1, which has witnesses 8 and 9. */
    private static HeardWords witnessesOut() {
        HeardWords x = new HeardWords();
        x.word(0, 3, 0, 0, 1);
        x.word(2, 768, 1, 0, 0);
        return x;
    }

    private static void notAble() {
        Edges.by("Who is not ABLE does not stand.");
        HeardWords x = new HeardWords();
        Edges.charge(x, 3, 1);
        Edges.against(x, 1, 0);
        Edges.elsewhere(x, 4, 0);
        Edges.due("nor does it quarrel, nor undo", x.heard(0, 0), 1);
        Edges.due("nor does it, heard first", Edges.inOrder(x, 0, 0, 2, 1, 0), 1);
        Edges.due("none is undone", x.heard(0, 1), 0);
        Edges.law(x, 0, "g=3");
        Edges.due("none stands", x.heard(0, 0), 0);
    }

    private static void whoQuarrels() {
        Edges.by("first, if it is AGAINST a WORD that stands, or such a one that stands is AGAINST it, they QUARREL");
        HeardWords x = new HeardWords();
        Edges.charge(x, 3, 1);
        Edges.against(x, 12, 0);
        Edges.against(x, 48, 0);
        Edges.due("it is against one that stands", Edges.inOrder(x, 0, 0, 0, 1), 0);
        Edges.due("one that stands is against it", Edges.inOrder(x, 0, 0, 1, 0), 0);
        Edges.due("two that are against the same one do not quarrel", Edges.inOrder(x, 0, 0, 1, 2), 6);
        Edges.due("it is against one that fell", Edges.inOrder(x, 0, 0, 0, 1, 2), 4);
        Edges.due("it is against one that is not heard", Edges.inOrder(x, 0, 0, 2), 4);
        HeardWords y = new HeardWords();
        Edges.charge(y, 3, 1);
        Edges.against(y, 12, 0);
        Edges.elsewhere(y, 48, 1);
        Edges.elsewhere(y, 48, 0);
        Edges.due("first the quarrel: what falls in it undoes nothing, nor is it undone", Edges.inOrder(y, 0, 1, 0, 1, 2, 3), 0);
        Edges.due("an elsewhere does not quarrel with the one it is about", Edges.inOrder(y, 0, 0, 0, 3), 8);
        Edges.due("undone ahead of the quarrel", Edges.inOrder(y, 0, 0, 0, 3, 1), 10);
    }

    private static void quarrelsOfTwo() {
        Edges.by("by c 0 both fall; 1 the later one falls; 2 the one with the smaller GROUP falls (all of it counted), of as many both.");
        int[] groups = {7, 7, 3, 15};
        int[] foes = {56, 24, 56, 48};
        int[][] byNumbers = {{0, 0, 0, 0}, {1, 1, 1, 1}, {0, 1, 2, 1}};
        int[][] backwards = {{0, 0, 0, 0}, {2, 2, 2, 2}, {0, 1, 2, 1}};
        for (int c = 0; c <= 2; c++) {
            for (int i = 0; i < groups.length; i++) {
                HeardWords x = new HeardWords();
                Edges.charge(x, groups[i], 1);
                Edges.against(x, foes[i], 0);
                Edges.law(x, 0, "c=" + c);
                String name = "c " + c + ", groups " + groups[i] + " and " + foes[i];
                Edges.due(name, x.heard(0, 0), byNumbers[c][i]);
                Edges.due(name + ", the against first", Edges.inOrder(x, 0, 0, 1, 0), backwards[c][i]);
                Edges.due(name + ": none is undone", x.heard(0, 1), 0);
            }
        }
    }

    private static void allOfItCounted() {
        Edges.by("the one with the smaller GROUP falls (all of it counted)");
        HeardWords x = witnessesOut();
        x.word(0, 0b0000110000, 0, 0, 1);
        x.word(1, 0b0001000011, 0, 0, 2);
        Edges.law(x, 0, "c=2;e=1;p=1;g=1");
        Edges.due("three, of whom one is not out, against two", x.heard(0, 0), 0b1010);
    }

    private static void quarrelsInTurn() {
        Edges.by("Each of these in turn, as long as both stand.");
        HeardWords x = new HeardWords();
        Edges.charge(x, 7, 1);
        Edges.against(x, 3, 0);
        Edges.against(x, 24, 0);
        Edges.due("c 0: both fall, the next stays", Edges.inOrder(x, 0, 0, 2, 1, 0), 4);
        Edges.law(x, 0, "c=1");
        Edges.due("c 1: the last heard falls once", Edges.inOrder(x, 0, 0, 1, 2, 0), 6);
        Edges.law(x, 0, "c=2");
        Edges.due("c 2: two smaller ones fall in turn", Edges.inOrder(x, 0, 0, 2, 1, 0), 1);
        x = new HeardWords();
        Edges.charge(x, 7, 1);
        Edges.against(x, 3, 0);
        Edges.against(x, 56, 0);
        Edges.against(x, 15, 0);
        Edges.law(x, 0, "c=2");
        Edges.due("c 2: the smaller falls, then both of as many, the greater stays", Edges.inOrder(x, 0, 0, 3, 2, 1, 0), 8);
        x = new HeardWords();
        Edges.charge(x, 3, 1);
        Edges.against(x, 12, 0);
        Edges.against(x, 48, 1);
        Edges.due("c 0: by numbers it meets the one it is against first", Edges.inOrder(x, 0, 0, 2, 0, 1), 4);
        Edges.due("c 0: whichever was heard first", Edges.inOrder(x, 0, 0, 0, 2, 1), 4);
        x = new HeardWords();
        Edges.charge(x, 3, 1);
        Edges.against(x, 12, 0);
        Edges.against(x, 7, 1);
        Edges.law(x, 0, "c=2");
        Edges.due("c 2: of as many both fall, and the greater one has none left", Edges.inOrder(x, 0, 0, 0, 2, 1), 4);
    }

    private static void undone() {
        Edges.by("then, if it stands and is a POSSIBLE ELSEWHERE about a WORD that stands, that one is UNDONE: it falls");
        HeardWords x = new HeardWords();
        Edges.charge(x, 3, 1);
        Edges.elsewhere(x, 12, 0);
        Edges.due("it falls", x.heard(0, 0), 2);
        Edges.due("it is undone", x.heard(0, 1), 1);
        Edges.due("alone it undoes nothing", Edges.inOrder(x, 0, 1, 1), 0);
        Edges.due("alone it stands", Edges.inOrder(x, 0, 0, 1), 2);
        x = new HeardWords();
        Edges.charge(x, 3, 1);
        Edges.beside(x, 12, 0);
        Edges.due("one that is not possible undoes nothing", x.heard(0, 0), 3);
        Edges.due("nor heard first", Edges.inOrder(x, 0, 0, 1, 0), 3);
        x = new HeardWords();
        Edges.charge(x, 3, 1);
        Edges.elsewhere(x, 12, 0);
        Edges.against(x, 48, 1);
        Edges.due("an elsewhere that falls in a quarrel undoes nothing", Edges.inOrder(x, 0, 1, 0, 2, 1), 0);
        Edges.due("the charge stands", Edges.inOrder(x, 0, 0, 0, 2, 1), 1);
        Edges.law(x, 0, "c=2");
        Edges.due("of as many it falls too", Edges.inOrder(x, 0, 0, 0, 2, 1), 1);
        x = new HeardWords();
        Edges.charge(x, 3, 1);
        Edges.elsewhere(x, 28, 0);
        Edges.against(x, 96, 1);
        Edges.law(x, 0, "c=2");
        Edges.due("one that outlasts its quarrel undoes", Edges.inOrder(x, 0, 0, 0, 2, 1), 2);
        x = new HeardWords();
        Edges.charge(x, 3, 1);
        Edges.against(x, 12, 0);
        Edges.elsewhere(x, 48, 0);
        Edges.elsewhere(x, 48, 1);
        Edges.due("what fell is not undone", x.heard(0, 1), 0);
        Edges.due("the elsewheres stand", x.heard(0, 0), 12);
    }

    private static void undoneItself() {
        Edges.by("else, if such a one that stands is about it, it is UNDONE itself.");
        HeardWords x = new HeardWords();
        Edges.charge(x, 3, 1);
        Edges.elsewhere(x, 12, 0);
        Edges.elsewhere(x, 48, 1);
        Edges.due("the elsewhere first: the charge falls as it comes", Edges.inOrder(x, 0, 0, 1, 0), 2);
        Edges.due("it is undone", Edges.inOrder(x, 0, 1, 1, 0), 1);
        Edges.due("who undoes is not undone then", Edges.inOrder(x, 0, 0, 0, 2, 1), 6);
        Edges.due("the charge is undone, and that alone", Edges.inOrder(x, 0, 1, 0, 2, 1), 1);
        Edges.due("who finds nothing to undo is undone", Edges.inOrder(x, 0, 0, 2, 1, 0), 5);
        Edges.due("that alone", Edges.inOrder(x, 0, 1, 2, 1, 0), 2);
        x = new HeardWords();
        Edges.charge(x, 3, 1);
        Edges.against(x, 48, 0);
        Edges.elsewhere(x, 12, 1);
        Edges.due("an against is undone ahead of its quarrel", Edges.inOrder(x, 0, 0, 2, 1, 0), 5);
        Edges.due("it is undone", Edges.inOrder(x, 0, 1, 2, 1, 0), 2);
    }

    private static void outFromThenOn() {
        Edges.by("With e 1 all WITNESSES of who is UNDONE are OUT from then on (WORDS that stand stay).");
        HeardWords x = new HeardWords();
        x.word(0, 0b0000000101, 0, 0, 1);
        x.word(0, 0b1000000011, 0, 0, 1);
        x.word(2, 0b0000110000, 1, 0, 1);
        x.word(0, 0b0000000110, 0, 0, 1);
        x.word(0, 0b1000001000, 0, 0, 1);
        x.word(0, 0b0000001100, 0, 0, 1);
        Edges.due("e 0: only the undone one falls", x.heard(0, 0), 0b111101);
        Edges.due("e 0: none is out", x.heard(0, 2), 0);
        Edges.law(x, 0, "e=1");
        Edges.due("e 1: what stood ahead stays, what comes behind does not stand", x.heard(0, 0), 0b100101);
        Edges.due("e 1: all of its group are out", x.heard(0, 2), 0b1000000011);
        Edges.due("not ahead of the undoing", Edges.inOrder(x, 0, 0, 1, 3, 4, 2), 0b011100);
        Edges.due("and they stay out", Edges.inOrder(x, 0, 0, 1, 2, 5, 4, 3, 0), 0b100100);
        x = new HeardWords();
        Edges.charge(x, 3, 1);
        Edges.elsewhere(x, 6, 0);
        Edges.law(x, 0, "e=1");
        Edges.due("the one that undoes stays, though one of it is out now", x.heard(0, 0), 2);
        Edges.due("who is undone as it comes is out as well", Edges.inOrder(x, 0, 2, 1, 0), 3);
        x = new HeardWords();
        Edges.charge(x, 3, 1);
        Edges.charge(x, 6, 1);
        Edges.elsewhere(x, 48, 0);
        Edges.elsewhere(x, 48, 1);
        Edges.law(x, 0, "e=1");
        Edges.due("who is undone twice is out still", x.heard(0, 2), 7);
        x = new HeardWords();
        Edges.charge(x, 3, 1);
        Edges.against(x, 12, 0);
        Edges.law(x, 0, "e=1");
        Edges.due("who falls in a quarrel is not out", x.heard(0, 2), 0);
    }

    private static void standsNotAgain() {
        Edges.by("What fell does not stand again.");
        HeardWords x = new HeardWords();
        Edges.charge(x, 3, 1);
        Edges.elsewhere(x, 12, 0);
        Edges.elsewhere(x, 48, 1);
        Edges.due("the one that undid it is undone", x.heard(0, 0), 4);
        Edges.due("both were", x.heard(0, 1), 3);
        x = new HeardWords();
        Edges.charge(x, 3, 1);
        Edges.against(x, 12, 0);
        Edges.elsewhere(x, 48, 1);
        Edges.due("both fell in the quarrel", x.heard(0, 0), 4);
        Edges.due("one of them fell before it could be undone", x.heard(0, 1), 0);
    }

    private static void onTheHead() {
        Edges.by("ON THE HEAD of a WITNESS: VALUES of all CHARGES that were UNDONE and had it in their GROUP.");
        HeardWords x = new HeardWords();
        x.word(0, 0b1000000001, 0, 0, 99);
        x.word(0, 0b1000000010, 0, 0, 0);
        x.word(0, 0b1000000100, 0, 0, 98);
        x.word(0, 0b1000001000, 0, 0, 50);
        for (int about = 0; about < 3; about++) {
            x.word(2, 0b0000110000, 1, 0, about);
        }
        x.word(2, 0b0011000000, 2, 0, 6);
        int[] want = {99, 0, 98, 0, 0, 0, 0, 0, 0, 197};
        for (int witness = 0; witness <= 9; witness++) {
            Edges.due("witness " + witness + " (of an undone elsewhere nothing counts)", x.head(0, witness), want[witness]);
        }
        x.keep(0b10000);
        Edges.due("not undone, as it is kept back", x.head(0, 0), 0);
        Edges.due("the other one still", x.head(0, 9), 98);
        x = new HeardWords();
        Edges.charge(x, 3, 9);
        Edges.against(x, 12, 0);
        Edges.elsewhere(x, 48, 0);
        Edges.due("what fell in a quarrel is not on it", x.head(0, 0), 0);
        x = new HeardWords();
        for (int i = 0; i < 5; i++) {
            Edges.charge(x, 1023, 99);
        }
        for (int i = 0; i < 5; i++) {
            Edges.elsewhere(x, 3, i);
        }
        Edges.due("the most that can be on a head: the first witness", x.head(0, 0), 495);
        Edges.due("the most that can be on a head: the last witness", x.head(0, 9), 495);
        Edges.law(x, 0, "e=1");
        Edges.due("with e 1 the first elsewhere alone is able", x.head(0, 9), 99);
    }

    private static void allThatAreHeard() {
        Edges.by("All WORDS that are not KEPT BACK are heard; in an ORDER told by a SHEET, or by numbers.");
        HeardWords x = new HeardWords();
        Edges.due("no words", x.heard(0, 0), 0);
        for (int w = 0; w < 10; w++) {
            Edges.charge(x, 3, 1);
        }
        Edges.due("all ten", x.heard(0, 0), 1023);
        x.keep(0b1000000001);
        Edges.due("all but the first and the last", x.heard(0, 0), 0b0111111110);
        x.keep(1023);
        Edges.due("none", x.heard(0, 0), 0);
        x.keep(0);
        Edges.due("all ten in an order", Edges.inOrder(x, 0, 0, 9, 8, 7, 6, 5, 4, 3, 2, 1, 0), 1023);
        Edges.due("the others are not heard", Edges.inOrder(x, 0, 0, 9, 0), 0b1000000001);
    }

    // ---- in all orders

    private static void ordersAtMost() {
        Edges.by("of all orders of the WORDS that are heard (7 at most: FULL) in how many a WORD stands.");
        HeardWords x = new HeardWords();
        Edges.due("no words: one order", x.orders(0, Edges.NONE), 1);
        int factorial = 1;
        for (int n = 1; n <= 7; n++) {
            Edges.charge(x, 3, 1);
            factorial *= n;
            Edges.due(n + " words", x.orders(0, Edges.NONE), factorial);
            Edges.due(n + " words: the first stands in all", x.orders(0, 0), factorial);
            Edges.due(n + " words: the last stands in all", x.orders(0, n - 1), factorial);
        }
        Edges.charge(x, 3, 1);
        Edges.due("eight words", x.orders(0, Edges.NONE), Edges.FULL);
        Edges.due("eight words: a word", x.orders(0, 7), Edges.FULL);
        x.keep(0b10000000);
        Edges.due("eight words, one kept back", x.orders(0, Edges.NONE), 5040);
        Edges.due("eight words, one kept back: a word", x.orders(0, 0), 5040);
        Edges.due("the one that is kept back stands in none", x.orders(0, 7), 0);
        Edges.charge(x, 3, 1);
        Edges.charge(x, 3, 1);
        Edges.due("ten words, one kept back", x.orders(0, Edges.NONE), Edges.FULL);
        x.keep(0b0000000011);
        Edges.due("ten words, two kept back", x.orders(0, 9), Edges.FULL);
        x.keep(0b0000000111);
        Edges.due("ten words, three kept back", x.orders(0, 9), 5040);
        x.keep(1023);
        Edges.due("all kept back: one order", x.orders(0, Edges.NONE), 1);
        Edges.due("all kept back: a word stands in none", x.orders(0, 0), 0);
        HeardWords foes = new HeardWords();
        Edges.charge(foes, 3, 1);
        Edges.against(foes, 12, 0);
        Edges.charge(foes, 3, 1);
        Edges.due("c 0: in none", foes.orders(0, 0), 0);
        Edges.law(foes, 1, "c=1");
        Edges.due("c 1: in one half", foes.orders(1, 0), 3);
        Edges.due("c 1: in the other half", foes.orders(1, 1), 3);
        foes.heard(1, 0);
        Edges.due("c 1: whatever was asked before", foes.orders(1, 1), 3);
        Edges.due("in all", foes.orders(1, 2), 6);
        HeardWords out = new HeardWords();
        Edges.charge(out, 3, 1);
        Edges.elsewhere(out, 12, 0);
        Edges.charge(out, 5, 1);
        Edges.law(out, 0, "e=1");
        Edges.due("e 1: in each order but those in which its witness is out", out.orders(0, 2), 4);
        Edges.due("e 1: in no order", out.orders(0, 0), 0);
        Edges.due("e 1: in all", out.orders(0, 1), 6);
    }

    // ---- at once

    private static void enoughAtOnce() {
        Edges.by("AT ONCE by a LAW: WORDS that are heard and whose GROUP has g or more");
        int[] groups = {1, 3, 7, 15, 31};
        int[] want = {31, 30, 28, 24};
        HeardWords x = new HeardWords();
        for (int group : groups) {
            Edges.charge(x, group, 1);
        }
        for (int g = 1; g <= 4; g++) {
            Edges.law(x, 0, "g=" + g);
            Edges.due("g " + g + ": least", x.least(0), want[g - 1]);
            Edges.due("g " + g + ": full", x.full(0, 0), want[g - 1]);
            Edges.due("g " + g + ": all that have enough are sound", x.sound(0, want[g - 1]), 1);
            Edges.due("g " + g + ": firm, with as many", x.firm(0, g - 1), 2);
            Edges.due("g " + g + ": firm, with one less", g == 1 ? 0 : x.firm(0, g - 2), 0);
        }
        x.keep(16);
        Edges.due("one that is kept back is not among them", x.least(0), 8);
        HeardWords pair = new HeardWords();
        Edges.charge(pair, 7, 1);
        Edges.elsewhere(pair, 3, 0);
        Edges.due("two are enough to strike", pair.strikes(0, 1, 0), 1);
        Edges.law(pair, 0, "g=3");
        Edges.due("two are too few to strike", pair.strikes(0, 1, 0), 0);
        HeardWords few = new HeardWords();
        Edges.charge(few, 3, 1);
        Edges.elsewhere(few, 7, 0);
        Edges.law(few, 0, "g=3");
        Edges.due("two are too few to be struck", few.strikes(0, 1, 0), 0);
    }

    private static void elsewheresStrike() {
        Edges.by("a WORD STRIKES another one: a POSSIBLE ELSEWHERE the one it is about");
        HeardWords x = new HeardWords();
        Edges.charge(x, 3, 1);
        Edges.elsewhere(x, 12, 0);
        Edges.elsewhere(x, 48, 1);
        Edges.beside(x, 48, 0);
        int[][] want = {{0, 0, 0, 0}, {1, 0, 0, 0}, {0, 1, 0, 0}, {0, 0, 0, 0}};
        for (int c = 0; c <= 2; c++) {
            Edges.law(x, 0, "c=" + c);
            for (int word = 0; word < 4; word++) {
                for (int other = 0; other < 4; other++) {
                    Edges.due("c " + c + ": strikes(0, " + word + ", " + other + ")", x.strikes(0, word, other), want[word][other]);
                }
            }
        }
    }

    private static void whoStrikes() {
        Edges.by("one that is AGAINST another one: by c 0 each the other; 1 the one with the lesser number; "
            + "2 the one with the greater GROUP, of as many each the other.");
        int[] groups = {7, 7, 3};
        int[] foes = {56, 24, 56};
        int[][] ahead = {{1, 1, 1}, {1, 1, 1}, {1, 1, 0}};
        int[][] back = {{1, 1, 1}, {0, 0, 0}, {1, 0, 1}};
        for (int c = 0; c <= 2; c++) {
            for (int i = 0; i < groups.length; i++) {
                HeardWords x = new HeardWords();
                Edges.charge(x, groups[i], 1);
                Edges.against(x, foes[i], 0);
                Edges.charge(x, 3, 1);
                Edges.law(x, 0, "c=" + c);
                String name = "c " + c + ", groups " + groups[i] + " and " + foes[i];
                Edges.due(name + ": the charge", x.strikes(0, 0, 1), ahead[c][i]);
                Edges.due(name + ": the against", x.strikes(0, 1, 0), back[c][i]);
                Edges.due(name + ": one that has no part in it", x.strikes(0, 1, 2) + x.strikes(0, 2, 1), 0);
            }
        }
    }

    private static void soundSets() {
        Edges.by("A set is SOUND, if none in it STRIKES another one in it, and whatever STRIKES one in it is STRUCK by one in it.");
        HeardWords x = new HeardWords();
        Edges.due("no words: the empty set", x.sound(0, 0), 1);
        Edges.charge(x, 3, 1);
        Edges.elsewhere(x, 12, 0);
        Edges.elsewhere(x, 48, 1);
        Edges.due("the empty set", x.sound(0, 0), 1);
        Edges.due("one whose striker is not struck", x.sound(0, 1), 0);
        Edges.due("one that another outside defends against nothing", x.sound(0, 2), 0);
        Edges.due("one that nothing strikes", x.sound(0, 4), 1);
        Edges.due("one in it strikes another one in it", x.sound(0, 3), 0);
        Edges.due("whatever strikes one is struck by another", x.sound(0, 5), 1);
        Edges.due("all", x.sound(0, 7), 0);
        x = new HeardWords();
        Edges.charge(x, 3, 1);
        Edges.against(x, 12, 0);
        Edges.due("it strikes its striker itself", x.sound(0, 1), 1);
        Edges.due("so does the other", x.sound(0, 2), 1);
        Edges.due("not both", x.sound(0, 3), 0);
        x = new HeardWords();
        Edges.charge(x, 3, 1);
        Edges.elsewhere(x, 12, 0);
        Edges.elsewhere(x, 12, 0);
        Edges.elsewhere(x, 12, 1);
        Edges.due("one of two strikers is struck", x.sound(0, 9), 0);
        Edges.elsewhere(x, 12, 2);
        Edges.due("both are struck", x.sound(0, 25), 1);
    }

    private static void leastSets() {
        Edges.by("LEAST: begin with those that nothing STRIKES, and again and again with those all of whose strikers are STRUCK by these; "
            + "the set at the end.");
        HeardWords x = new HeardWords();
        Edges.due("no words", x.least(0), 0);
        Edges.charge(x, 3, 1);
        int[] want = {1, 2, 5, 10, 21, 42, 85, 170, 341, 682};
        Edges.due("a chain of 1", x.least(0), want[0]);
        for (int w = 1; w < 10; w++) {
            Edges.elsewhere(x, 3, w - 1);
            Edges.due("a chain of " + (w + 1), x.least(0), want[w]);
        }
        x = new HeardWords();
        Edges.charge(x, 3, 1);
        Edges.against(x, 12, 0);
        Edges.due("each strikes the other: nothing begins", x.least(0), 0);
        Edges.elsewhere(x, 48, 1);
        Edges.due("the striker is struck: it strikes back in vain", x.least(0), 5);
        x = new HeardWords();
        Edges.charge(x, 3, 1);
        Edges.elsewhere(x, 12, 0);
        Edges.elsewhere(x, 12, 0);
        Edges.elsewhere(x, 12, 1);
        Edges.due("one of two strikers is struck", x.least(0), 12);
        Edges.elsewhere(x, 12, 2);
        Edges.due("both are struck", x.least(0), 25);
    }

    private static void fullSets() {
        Edges.by("FULL SETS: SOUND ones that are part of no greater SOUND one; in order of bits.");
        HeardWords x = new HeardWords();
        Edges.due("no words: one", x.full(0, Edges.NONE), 1);
        Edges.due("no words: the empty one", x.full(0, 0), 0);
        Edges.charge(x, 3, 1);
        Edges.due("the empty one is part of a greater one", x.full(0, Edges.NONE), 1);
        Edges.due("the greater one", x.full(0, 0), 1);
        Edges.against(x, 12, 0);
        Edges.against(x, 48, 1);
        Edges.elsewhere(x, 48, 0);
        Edges.due("one is left, as the charge is struck", x.full(0, Edges.NONE), 2);
        Edges.due("the least bits first", x.full(0, 0), 0b1010);
        Edges.due("then the greater bits", x.full(0, 1), 0b1100);
        x = new HeardWords();
        for (int i = 0; i < 5; i++) {
            Edges.charge(x, 3, 1);
            Edges.against(x, 12, 2 * i);
        }
        Edges.due("the most that ten words can have by pairs", x.full(0, Edges.NONE), 32);
        int before = -1;
        for (int i = 0; i < 32; i++) {
            int want = 0;
            for (int pair = 0; pair < 5; pair++) {
                want |= (i >> pair & 1) == 0 ? 1 << 2 * pair : 2 << 2 * pair;
            }
            Edges.due("the set " + i, x.full(0, i), want);
            Edges.due("behind the one before", x.full(0, i) > before ? 1 : 0, 1);
            before = want;
        }
        HeardWords apart = new HeardWords();
        Edges.charge(apart, 3, 1);
        Edges.elsewhere(apart, 3, 0);
        Edges.against(apart, 3, 1);
        Edges.charge(apart, 3, 1);
        Edges.due("two words come only together", apart.sound(0, 1) + 2 * apart.sound(0, 4) + 4 * apart.sound(0, 5), 6);
        Edges.due("two full sets", apart.full(0, Edges.NONE), 2);
        Edges.due("without them", apart.full(0, 0), 0b1010);
        Edges.due("with both", apart.full(0, 1), 0b1101);
    }

    private static void firmWords() {
        Edges.by("FIRM is a WORD that is in all FULL SETS (2), in some (1), in none (0).");
        HeardWords x = new HeardWords();
        Edges.charge(x, 3, 1);
        Edges.due("alone", x.firm(0, 0), 2);
        Edges.against(x, 12, 0);
        Edges.charge(x, 3, 1);
        Edges.charge(x, 3, 1);
        Edges.elsewhere(x, 12, 3);
        Edges.charge(x, 1, 1);
        int[] want = {1, 1, 2, 0, 2, 0};
        for (int w = 0; w < want.length; w++) {
            Edges.due("word " + w, x.firm(0, w), want[w]);
        }
        x.keep(2);
        Edges.due("kept back: in none", x.firm(0, 1), 0);
        Edges.due("its foe: in all", x.firm(0, 0), 2);
    }

    // ---- rings, chains, what is wanted

    private static void rings() {
        Edges.by("RING: WORDS that are heard from which, by STRIKING (AT ONCE, by LAW 0), one comes back to them; bits.");
        HeardWords x = new HeardWords();
        Edges.due("no words", x.ring(), 0);
        for (int w = 0; w < 10; w++) {
            x.word(w == 0 ? 0 : 1, 3, 0, 0, w == 0 ? 0 : w - 1);
        }
        Edges.due("all ten", x.ring(), 1023);
        x.keep(0b0000000010);
        Edges.due("the first has none left", x.ring(), 0b1111111100);
        x.keep(0);
        Edges.law(x, 0, "c=1");
        Edges.due("c 1: it never comes back", x.ring(), 0);
        Edges.law(x, 1, "c=0");
        Edges.due("by law 0 alone", x.ring(), 0);
        HeardWords two = new HeardWords();
        Edges.charge(two, 3, 1);
        Edges.elsewhere(two, 12, 0);
        Edges.against(two, 12, 1);
        Edges.elsewhere(two, 12, 2);
        Edges.due("who is struck from a ring, or strikes into it, is not on it", two.ring(), 0b0110);
        Edges.law(two, 0, "g=3");
        Edges.due("too few at once", two.ring(), 0);
    }

    private static void chains() {
        Edges.by("CHAIN of a WORD: the most POSSIBLE ELSEWHERES one about the other, the last one about it (0: none; heard ones).");
        HeardWords x = new HeardWords();
        Edges.charge(x, 1, 1);
        Edges.due("none", x.chain(0), 0);
        for (int w = 1; w < 10; w++) {
            Edges.elsewhere(x, 1, w - 1);
            Edges.due("the one just told", x.chain(w), 0);
            Edges.due("the whole chain", x.chain(0), w);
        }
        x.keep(0b1000000000);
        Edges.due("the last one is kept back", x.chain(0), 8);
        x.keep(0b0000000010);
        Edges.due("the next one is kept back", x.chain(0), 0);
        Edges.due("behind it the chain goes on", x.chain(2), 7);
        x.keep(0);
        Edges.law(x, 0, "g=4");
        Edges.due("how many are in a group does not count", x.chain(0), 9);
        HeardWords other = new HeardWords();
        Edges.charge(other, 1, 1);
        Edges.against(other, 1, 0);
        Edges.due("an against is none", other.chain(0), 0);
        Edges.beside(other, 1, 0);
        Edges.due("one that is not possible is none", other.chain(0), 0);
        Edges.elsewhere(other, 1, 2);
        Edges.due("nor does a chain go over it", other.chain(0), 0);
        Edges.due("but ends in it", other.chain(2), 1);
        Edges.elsewhere(other, 1, 0);
        Edges.elsewhere(other, 1, 4);
        Edges.elsewhere(other, 1, 0);
        Edges.due("the most, not all", other.chain(0), 2);
    }

    private static void hanging() {
        Edges.by("HANGS on a WORD: how many other WORDS that are heard stand otherwise, if it is KEPT BACK (by LAW 0, by numbers).");
        HeardWords x = new HeardWords();
        Edges.charge(x, 3, 1);
        Edges.due("itself is not counted", x.hangs(0), 0);
        Edges.elsewhere(x, 12, 0);
        Edges.due("one falls by it", x.hangs(1), 1);
        Edges.due("none falls or stands by the other", x.hangs(0), 0);
        Edges.charge(x, 1, 1);
        Edges.due("one that is not able changes nothing", x.hangs(2), 0);
        Edges.against(x, 3, 0);
        Edges.due("what would fall without it counts as well", x.hangs(1), 1);
        HeardWords most = new HeardWords();
        Edges.charge(most, 1023, 1);
        Edges.elsewhere(most, 3, 0);
        for (int w = 2; w < 10; w++) {
            Edges.charge(most, 3 << (w - 2), 1);
        }
        Edges.law(most, 0, "e=1");
        Edges.due("all nine others", most.hangs(1), 9);
        Edges.due("all but the one that undoes", most.hangs(0), 8);
        Edges.law(most, 1, "e=0");
        Edges.due("by law 0 alone", most.hangs(1), 9);
        most.keep(0b1000000001);
        Edges.due("of those that are heard", most.hangs(1), 0);
    }

    private static void mostHanging() {
        Edges.by("MOST: the WORD on which most HANGS, of like ones the least; NONE without any.");
        HeardWords x = new HeardWords();
        Edges.due("without any", x.most(), Edges.NONE);
        for (int w = 0; w < 4; w++) {
            Edges.charge(x, 3, 1);
        }
        Edges.due("nothing hangs on any: the least", x.most(), 0);
        x.keep(1);
        Edges.due("the least that is heard", x.most(), 1);
        x.keep(15);
        Edges.due("none is heard", x.most(), Edges.NONE);
        x.keep(0);
        Edges.elsewhere(x, 12, 0);
        Edges.elsewhere(x, 12, 1);
        Edges.due("of like ones the least", x.most(), 4);
        x.keep(16);
        Edges.due("the other", x.most(), 5);
        HeardWords later = new HeardWords();
        Edges.charge(later, 48, 1);
        Edges.elsewhere(later, 768, 0);
        Edges.charge(later, 3, 1);
        Edges.elsewhere(later, 192, 2);
        Edges.charge(later, 5, 1);
        Edges.charge(later, 6, 1);
        Edges.law(later, 0, "e=1");
        Edges.due("more hangs on a later one", later.most(), 3);
    }

    private static void bringing() {
        Edges.by("BRINGS: the fewest WORDS KEPT BACK that, heard too, make a CHARGE fall (up 0), or stand (up 1), by LAW 0 AT ONCE in LEAST; "
            + "of like ones the least bits (0: none is wanted); NONE.");
        HeardWords x = new HeardWords();
        Edges.charge(x, 3, 1);
        Edges.due("none kept back: none is wanted", x.brings(0, 1), 0);
        Edges.due("none kept back: none can", x.brings(0, 0), Edges.NONE);
        Edges.elsewhere(x, 12, 0);
        Edges.elsewhere(x, 12, 0);
        Edges.due("struck: none is wanted", x.brings(0, 0), 0);
        Edges.due("struck: none can", x.brings(0, 1), Edges.NONE);
        x.keep(6);
        Edges.due("of like ones the least bits", x.brings(0, 0), 2);
        Edges.due("none is wanted", x.brings(0, 1), 0);
        Edges.elsewhere(x, 12, 1);
        Edges.elsewhere(x, 12, 2);
        x.keep(0b11000);
        Edges.due("two are wanted", x.brings(0, 1), 0b11000);
        x.keep(0b10000);
        Edges.due("one is wanted", x.brings(0, 1), 0b10000);
        x.keep(0b01000);
        Edges.due("one is wanted", x.brings(0, 1), 0b01000);
        x.keep(0b01100);
        Edges.due("one is wanted, not both", x.brings(0, 1), 0b01000);
        HeardWords fewest = new HeardWords();
        Edges.charge(fewest, 3, 1);
        Edges.elsewhere(fewest, 12, 0);
        Edges.elsewhere(fewest, 12, 0);
        Edges.against(fewest, 12, 1);
        Edges.elsewhere(fewest, 12, 2);
        Edges.elsewhere(fewest, 12, 3);
        fewest.keep(0b111110);
        Edges.due("the fewest", fewest.brings(0, 0), 0b000010);
        fewest.keep(0b111000);
        Edges.due("an against alone does not strike it for good", fewest.brings(0, 1), Edges.NONE);
        Edges.elsewhere(fewest, 12, 1);
        fewest.keep(0b1111000);
        Edges.due("the fewest, of greater bits", fewest.brings(0, 1), 0b1010000);
        HeardWords all = new HeardWords();
        Edges.charge(all, 3, 1);
        for (int w = 1; w < 5; w++) {
            Edges.elsewhere(all, 12, 0);
        }
        for (int w = 1; w < 5; w++) {
            Edges.elsewhere(all, 12, w);
        }
        Edges.charge(all, 3, 1);
        all.keep(0b1111100000);
        Edges.due("four are wanted, and not the fifth", all.brings(0, 1), 0b0111100000);
        Edges.law(all, 1, "g=3");
        Edges.due("by law 0, whatever law 1 says", all.brings(0, 1), 0b0111100000);
        Edges.law(all, 0, "g=3");
        Edges.due("by law 0: two are too few to stand", all.brings(0, 1), Edges.NONE);
    }

    private static void parting() {
        Edges.by("PART: the fewest WORDS (of those that are heard), alone heard by numbers, by which LAW 0 and LAW 1 let unlike WORDS stand; "
            + "of like ones the least bits; NONE. (A WORD about one that is not heard is about nothing.)");
        HeardWords x = new HeardWords();
        Edges.law(x, 1, "g=1;c=1;e=1;p=1");
        Edges.due("no words", x.part(), Edges.NONE);
        Edges.charge(x, 3, 1);
        Edges.due("no word parts them", x.part(), Edges.NONE);
        Edges.against(x, 12, 0);
        Edges.due("two", x.part(), 3);
        Edges.against(x, 12, 0);
        Edges.due("of like ones the least bits", x.part(), 3);
        x.keep(2);
        Edges.due("of those that are heard", x.part(), 5);
        x.keep(1);
        Edges.due("about one that is not heard: about nothing", x.part(), Edges.NONE);
        x.keep(0);
        Edges.charge(x, 1, 1);
        Edges.due("one is fewer than two, though of greater bits", x.part(), 8);
        Edges.charge(x, 1, 1);
        Edges.due("of two single ones the least bits", x.part(), 8);
        Edges.law(x, 0, "g=1;c=1;e=1;p=1");
        Edges.due("the same law", x.part(), Edges.NONE);
        HeardWords first = new HeardWords();
        Edges.charge(first, 1, 1);
        Edges.law(first, 1, "g=1");
        Edges.due("the first word alone", first.part(), 1);
        String[] laws = {"g=4", "c=1", "c=2", "e=1"};
        int[] parts = {1, 3, 3, 13};
        for (int i = 0; i < laws.length; i++) {
            HeardWords one = new HeardWords();
            Edges.charge(one, 7, 1);
            Edges.against(one, 24, 0);
            Edges.elsewhere(one, 48, 0);
            Edges.charge(one, 13, 1);
            Edges.law(one, 1, laws[i]);
            Edges.due("laws that differ by " + laws[i] + " alone", one.part(), parts[i]);
        }
        HeardWords rest = new HeardWords();
        Edges.charge(rest, 3, 1);
        Edges.elsewhere(rest, 12, 0);
        Edges.charge(rest, 49, 1);
        Edges.law(rest, 0, "e=1");
        Edges.law(rest, 1, "e=1;p=1");
        Edges.due("laws that differ by p alone", rest.part(), 7);
        HeardWords three = new HeardWords();
        Edges.charge(three, 3, 1);
        Edges.elsewhere(three, 12, 0);
        Edges.charge(three, 5, 1);
        Edges.law(three, 1, "e=1");
        Edges.due("all three", three.part(), 7);
        Edges.law(three, 1, "e=1;");
        Edges.due("with a fault it is as the other", three.part(), Edges.NONE);
    }
}
