/** The edges that the document's terms name: of towns, words, laws and sheets. */
public final class TermsEdgesTest {
    private TermsEdgesTest() {
    }

    public static void main(String[] args) {
        towns();
        hours();
        away();
        wordsAtMost();
        kinds();
        groups();
        hoursOfWords();
        values();
        toldAhead();
        keptBack();
        possible();
        lawsAtMost();
        partsOfALaw();
        figures();
        lastPart();
        faults();
        faultsAtTheEnd();
        asWithoutAnyPart();
        sheets();
        findings();
        callsAtMost();
        Edges.end("TermsEdgesTest");
    }

    // ---- towns and roads

    private static void towns() {
        Edges.by("TOWNS are 0 to 5.");
        HeardWords x = new HeardWords();
        for (int a = 0; a <= 5; a++) {
            for (int b = a + 1; b <= 5; b++) {
                Edges.due("road(" + a + ", " + b + ", 9)", x.road(a, b, 9), 0);
            }
        }
        Edges.due("all the roads there can be", x.count(4), 15);
        Edges.due("away(0, 5)", x.away(0, 5), 9);
        Edges.due("away(5, 0)", x.away(5, 0), 9);
        Edges.due("a word of town 0", x.word(0, 1, 0, 0, 0), 0);
        Edges.due("a word of town 5", x.word(0, 1, 5, 0, 0), 1);
        int[] none = Edges.outside(0, 5);
        Edges.refusedWith("road from", Edges::court, (y, town) -> y.road(town, 1, 9), Edges.BAD, none);
        Edges.refusedWith("road to", Edges::court, (y, town) -> y.road(1, town, 9), Edges.BAD, none);
        Edges.refusedWith("away from", Edges::court, (y, town) -> y.away(town, 1), Edges.BAD, none);
        Edges.refusedWith("away to", Edges::court, (y, town) -> y.away(1, town), Edges.BAD, none);
        Edges.refusedWith("away from itself", Edges::court, (y, town) -> y.away(town, town), Edges.BAD, none);
        Edges.refusedWith("a word of town", Edges::court, (y, town) -> y.word(0, 1, town, 0, 0), Edges.BAD, none);
    }

    private static void hours() {
        Edges.by("take HOURS (1 to 99, or 0: none, at first)");
        HeardWords x = new HeardWords();
        Edges.due("roads at first", x.count(4), 0);
        for (int a = 0; a <= 5; a++) {
            for (int b = 0; b <= 5; b++) {
                if (a != b) {
                    Edges.due("road(" + a + ", " + b + ", 0) at first", x.road(a, b, 0), 0);
                }
            }
        }
        Edges.due("roads of 0 hours are none", x.count(4), 0);
        Edges.due("1 hour", x.road(2, 3, 1), 0);
        Edges.due("1 hour away", x.away(2, 3), 1);
        Edges.due("a road of 1 hour is one", x.count(4), 1);
        Edges.due("99 hours", x.road(2, 3, 99), 1);
        Edges.due("99 hours away", x.away(2, 3), 99);
        Edges.due("0: none", x.road(2, 3, 0), 99);
        Edges.due("no way any more", x.away(2, 3), 1000);
        Edges.due("no road any more", x.count(4), 0);
        Edges.refusedWith("a new road of hours", Edges::court, (y, hours) -> y.road(2, 3, hours), Edges.BAD, Edges.outside(0, 99));
        Edges.refusedWith("a road there is, of hours", Edges::court, (y, hours) -> y.road(0, 1, hours), Edges.BAD, Edges.outside(0, 99));
    }

    private static void away() {
        Edges.by("AWAY are two TOWNS by the quickest way (0 a TOWN from itself; 1000 if there is none).");
        HeardWords x = new HeardWords();
        for (int a = 0; a <= 5; a++) {
            for (int b = 0; b <= 5; b++) {
                Edges.due("away(" + a + ", " + b + ") without roads", x.away(a, b), a == b ? 0 : 1000);
            }
        }
        x.road(0, 1, 50);
        x.road(2, 3, 50);
        Edges.due("0 from itself, with a road", x.away(0, 0), 0);
        Edges.due("roads at both ends, none between", x.away(0, 2), 1000);
        x.road(1, 2, 49);
        Edges.due("a way over two towns", x.away(0, 3), 149);
        x.road(0, 2, 99);
        Edges.due("around is as quick as the road", x.away(0, 2), 99);
        x.road(0, 2, 98);
        Edges.due("the road is quicker by one", x.away(0, 2), 98);
        x.road(1, 2, 47);
        Edges.due("around is quicker by one", x.away(0, 2), 97);
        HeardWords line = new HeardWords();
        int[] towns = {5, 0, 4, 1, 3, 2};
        for (int i = 0; i < 5; i++) {
            line.road(towns[i], towns[i + 1], 99);
        }
        Edges.due("the farthest that a way can be", line.away(5, 2), 495);
        line.road(4, 1, 0);
        Edges.due("none, when a road in its midst is gone", line.away(5, 2), 1000);
    }

    // ---- words

    private static void wordsAtMost() {
        Edges.by("WORDS, 10 at most");
        HeardWords x = new HeardWords();
        for (int w = 0; w < 10; w++) {
            Edges.due("word " + w, x.word(0, 1, 0, 0, w), w);
        }
        Edges.due("ten", x.count(0), 10);
        Edges.due("the last one is told", x.is(9, 4), 9);
        Edges.refused("an eleventh", Edges::brimful, y -> y.word(0, 1, 0, 0, 0), Edges.FULL);
        Edges.refused("an eleventh, against one", Edges::brimful, y -> y.word(1, 1, 0, 0, 9), Edges.FULL);
        Edges.refused("an eleventh, elsewhere", Edges::brimful, y -> y.word(2, 1, 0, 0, 9), Edges.FULL);
    }

    private static void kinds() {
        Edges.by("of a KIND (0 CHARGE, 1 AGAINST, 2 ELSEWHERE)");
        HeardWords x = new HeardWords();
        for (int kind = 0; kind <= 2; kind++) {
            Edges.due("kind " + kind, x.word(kind, 1, 0, 0, 0), kind);
            Edges.due("it is so", x.is(kind, 0), kind);
        }
        Edges.refusedWith("a word of kind", Edges::court, (y, kind) -> y.word(kind, 1, 0, 0, 0), Edges.BAD, Edges.outside(0, 2));
    }

    private static void groups() {
        Edges.by("by a GROUP of WITNESSES (0 to 9; bits, not none)");
        HeardWords x = new HeardWords();
        int[] groups = {1, 2, 256, 512, 513, 1022, 1023};
        for (int w = 0; w < groups.length; w++) {
            Edges.due("group " + groups[w], x.word(0, groups[w], 0, 0, 0), w);
            Edges.due("it is so", x.is(w, 1), groups[w]);
        }
        int[] none = {0, -1, 1024, 1025, 2047, 1 << 31, 1 << 30, -1024, Edges.LEAST_INT + 1, Edges.GREATEST_INT};
        for (int kind = 0; kind <= 2; kind++) {
            int k = kind;
            Edges.refusedWith("kind " + kind + " by group", Edges::court, (y, group) -> y.word(k, group, 0, 0, 0), Edges.BAD, none);
        }
    }

    private static void hoursOfWords() {
        Edges.by("of a TOWN and an HOUR (0 to 999) of which they tell");
        HeardWords x = new HeardWords();
        Edges.due("hour 0", x.word(0, 1, 0, 0, 0), 0);
        Edges.due("hour 999", x.word(0, 1, 0, 999, 0), 1);
        Edges.due("hour 0 is so", x.is(0, 3), 0);
        Edges.due("hour 999 is so", x.is(1, 3), 999);
        for (int kind = 0; kind <= 2; kind++) {
            int k = kind;
            Edges.refusedWith("kind " + kind + " of hour", Edges::court, (y, hour) -> y.word(k, 1, 0, hour, 0), Edges.BAD, Edges.outside(0, 999));
        }
    }

    private static void values() {
        Edges.by("a CHARGE has a VALUE (0 to 99)");
        HeardWords x = new HeardWords();
        Edges.due("value 99, though there are no words", x.word(0, 1, 0, 0, 99), 0);
        Edges.due("value 0", x.word(0, 1, 0, 0, 0), 1);
        Edges.due("value 99 is so", x.is(0, 4), 99);
        Edges.due("value 0 is so", x.is(1, 4), 0);
        Edges.refusedWith("a charge of value", Edges::court, (y, value) -> y.word(0, 1, 0, 0, value), Edges.BAD, Edges.outside(0, 99));
    }

    private static void toldAhead() {
        Edges.by("others the WORD that they are about (told ahead of them)");
        for (int kind = 1; kind <= 2; kind++) {
            int k = kind;
            Edges.refusedWith("kind " + kind + ", the first of all, about", Edges::bare, (y, about) -> y.word(k, 1, 0, 0, about), Edges.BAD,
                0, 1, -1, Edges.LEAST_INT, Edges.GREATEST_INT);
            HeardWords x = Edges.court();
            Edges.due("kind " + kind + " about the first", x.word(kind, 1, 0, 0, 0), 6);
            Edges.due("kind " + kind + " about the one just told", x.word(kind, 1, 0, 0, 6), 7);
            Edges.due("it is so", x.is(7, 4), 6);
            Edges.refusedWith("kind " + kind + " about", Edges::court, (y, about) -> y.word(k, 1, 0, 0, about), Edges.BAD, Edges.outside(0, 5));
        }
    }

    private static void keptBack() {
        Edges.by("A WORD may be KEPT BACK (none at first): it is not heard, unless it is told otherwise.");
        HeardWords x = new HeardWords();
        Edges.due("none at first", x.count(1), 0);
        Edges.charge(x, 3, 7);
        Edges.elsewhere(x, 12, 0);
        Edges.due("a word that is told is not", x.is(0, 5), 0);
        Edges.due("both are heard", x.heard(0, 0), 2);
        x.keep(2);
        Edges.due("it is kept back", x.is(1, 5), 1);
        Edges.due("it is not heard", x.heard(0, 0), 1);
        Edges.due("nor at once", x.least(0), 1);
        Edges.due("told otherwise: brings() hears it", x.brings(0, 0), 2);
        Edges.charge(x, 3, 7);
        Edges.due("a later word is not kept back", x.is(2, 5), 0);
        Edges.due("it is heard", x.heard(0, 0), 5);
        x.keep(7);
        Edges.due("all are kept back", x.heard(0, 0), 0);
        Edges.due("none at once", x.least(0), 0);
    }

    private static void possible() {
        Edges.by("An ELSEWHERE is POSSIBLE, if its TOWN and that of the WORD it is about are farther AWAY than their HOURS lie apart; "
            + "else it undoes nothing.");
        int[] apart = {-8, -7, -6, 0, 6, 7, 8};
        int[] possible = {0, 0, 1, 1, 1, 0, 0};
        for (int i = 0; i < apart.length; i++) {
            HeardWords x = pair(7, 100, 100 + apart[i]);
            Edges.due("7 away, " + apart[i] + " apart", x.is(1, 6), possible[i]);
            Edges.due("count(5)", x.count(5), 2 * possible[i]);
            Edges.due("words that stand", x.heard(0, 0), possible[i] == 1 ? 2 : 3);
            Edges.due("words that are undone", x.heard(0, 1), possible[i]);
            Edges.due("the elsewhere ahead", Edges.inOrder(x, 0, 1, 1, 0), possible[i]);
            Edges.due("strikes", x.strikes(0, 1, 0), possible[i]);
            Edges.due("chain", x.chain(0), possible[i]);
        }
        HeardWords x = pair(0, 0, 999);
        Edges.due("no way, 999 apart", x.is(1, 6), 1);
        x.road(0, 1, 99);
        Edges.due("99 away, 999 apart", x.is(1, 6), 0);
        Edges.due("it undoes nothing any more", x.heard(0, 0), 3);
        Edges.due("nor heard first", Edges.inOrder(x, 0, 0, 1, 0), 3);
        Edges.due("nor strikes", x.strikes(0, 1, 0), 0);
        x.road(0, 1, 0);
        Edges.due("no way again", x.is(1, 6), 1);
        Edges.due("it undoes again", x.heard(0, 0), 2);
        Edges.due("heard first as well", Edges.inOrder(x, 0, 0, 1, 0), 2);
        Edges.due("and strikes", x.strikes(0, 1, 0), 1);
        x = new HeardWords();
        Edges.charge(x, 3, 1);
        Edges.beside(x, 12, 0);
        Edges.due("0 away, 0 apart", x.is(1, 6), 0);
        x.word(2, 12, 0, 1, 0);
        Edges.due("0 away, 1 apart", x.is(2, 6), 0);
        x.road(0, 3, 1);
        x.word(2, 12, 3, 0, 0);
        Edges.due("1 away, 0 apart", x.is(3, 6), 1);
    }

    /** A charge in town 0 and an elsewhere in town 1 about it. */
    private static HeardWords pair(int road, int hour, int hourElsewhere) {
        HeardWords x = new HeardWords();
        x.road(0, 1, road);
        x.word(0, 3, 0, hour, 9);
        x.word(2, 12, 1, hourElsewhere, 0);
        return x;
    }

    // ---- laws

    private static void lawsAtMost() {
        Edges.by("LAWS 0, 1 are texts of up to 40 bytes");
        for (int law = 0; law <= 1; law++) {
            HeardWords x = new HeardWords();
            for (int i = 1; i <= 40; i++) {
                Edges.due("byte " + i, x.type(law, 'g'), i);
            }
            Edges.due("bytes of law " + law, x.count(2 + law), 40);
            Edges.due("bytes of the other", x.count(3 - law), 0);
            int l = law;
            Edges.refused("a byte more", Edges::brimful, y -> y.type(l, ';'), Edges.FULL);
        }
        int[] none = Edges.outside(0, 1);
        Edges.refusedWith("type", Edges::court, (y, law) -> y.type(law, 'g'), Edges.BAD, none);
        Edges.refusedWith("wipe", Edges::court, (y, law) -> y.wipe(law), Edges.BAD, none);
        Edges.refusedWith("fault", Edges::court, (y, law) -> y.fault(law), Edges.BAD, none);
        Edges.refusedWith("law", Edges::court, (y, law) -> y.law(law, 0), Edges.BAD, none);
        Edges.refusedWith("heard", Edges::court, (y, law) -> y.heard(law, 0), Edges.BAD, none);
        Edges.refusedWith("ordered", Edges::court, (y, law) -> y.ordered(law, 2, 0), Edges.BAD, none);
        Edges.refusedWith("head", Edges::court, (y, law) -> y.head(law, 0), Edges.BAD, none);
        Edges.refusedWith("orders", Edges::court, (y, law) -> y.orders(law, 0), Edges.BAD, none);
        Edges.refusedWith("strikes", Edges::court, (y, law) -> y.strikes(law, 1, 0), Edges.BAD, none);
        Edges.refusedWith("sound", Edges::court, (y, law) -> y.sound(law, 0), Edges.BAD, none);
        Edges.refusedWith("least", Edges::court, (y, law) -> y.least(law), Edges.BAD, none);
        Edges.refusedWith("full", Edges::court, (y, law) -> y.full(law, Edges.NONE), Edges.BAD, none);
        Edges.refusedWith("firm", Edges::court, (y, law) -> y.firm(law, 0), Edges.BAD, none);
    }

    private static void partsOfALaw() {
        Edges.by("parts with ; between them: a letter, =, a figure");
        String[] texts = {"g=1", "g=1;c=1", "g=1;c=1;e=1;p=1", "g=1;c=2;e=1;p=1;g=2;c=1;e=0;p=0;g=4;c=0", ";g=1", "g=1;", "g=1;;c=1", "g=1,c=1",
            "g=1c=1", "g=10", "g:1", "g1", "=1", "1=g", "G=1", "g=1;C=1", "g=\u0001", " g=1", "g=1 "};
        int none = Edges.NONE;
        int[] faults = {none, none, none, none, 0, 4, 4, 3, 3, 3, 1, 1, 0, 0, 0, 4, 2, 0, 3};
        for (int i = 0; i < texts.length; i++) {
            HeardWords x = new HeardWords();
            Edges.law(x, 0, texts[i]);
            Edges.due("fault of " + texts[i], x.fault(0), faults[i]);
        }
    }

    private static void figures() {
        Edges.by("g how many make a WORD (1 to 4; 2 without any), c (0 to 2; 0), e (0, 1; 0), p (0, 1; 0).");
        String letters = "gcep";
        int[] least = {1, 0, 0, 0};
        int[] greatest = {4, 2, 1, 1};
        int[] without = {2, 0, 0, 0};
        for (int which = 0; which < 4; which++) {
            for (int b = 0; b <= 255; b++) {
                HeardWords x = new HeardWords();
                Edges.due("without any part", x.law(0, which), without[which]);
                x.type(0, letters.charAt(which));
                x.type(0, '=');
                x.type(0, b);
                boolean well = b >= '0' + least[which] && b <= '0' + greatest[which];
                Edges.due("fault of " + letters.charAt(which) + "= and byte " + b, x.fault(0), well ? Edges.NONE : 2);
                for (int other = 0; other < 4; other++) {
                    int want = well && other == which ? b - '0' : without[other];
                    Edges.due("law(0, " + other + ") of " + letters.charAt(which) + "= and byte " + b, x.law(0, other), want);
                }
            }
        }
    }

    private static void lastPart() {
        Edges.by("Of parts of one letter the last is so.");
        String[] texts = {"g=4;g=1", "g=1;g=4", "g=1;c=1;g=3", "c=2;c=0", "c=0;c=1;c=2", "e=1;e=0", "e=0;e=1", "p=1;p=0", "p=0;p=1",
            "g=1;g=2;g=3;g=4;g=1;g=2;g=3;g=4;g=1;g=3"};
        int[] which = {0, 0, 0, 1, 1, 2, 2, 3, 3, 0};
        int[] want = {1, 4, 3, 0, 2, 0, 1, 0, 1, 3};
        for (int i = 0; i < texts.length; i++) {
            HeardWords x = new HeardWords();
            Edges.law(x, 1, texts[i]);
            Edges.due("law(1, " + which[i] + ") of " + texts[i], x.law(1, which[i]), want[i]);
        }
    }

    private static void faults() {
        Edges.by("The FAULT is the place of the first byte with which it cannot go on");
        String[] ahead = {"", "g", "g=", "g=1", "g=1;", "g=1;c", "g=1;c=", "g=1;c=2"};
        String[] goOn = {"cegp", "=", "1234", ";", "cegp", "=", "012", ";"};
        for (int i = 0; i < ahead.length; i++) {
            for (int b = 0; b <= 255; b++) {
                HeardWords x = new HeardWords();
                Edges.law(x, 0, ahead[i]);
                x.type(0, b);
                boolean goesOn = goOn[i].indexOf((char) b) >= 0;
                boolean whole = goesOn && (i == 2 || i == 6);
                int want = whole ? Edges.NONE : goesOn ? i + 1 : i;
                Edges.due("fault of " + ahead[i] + " and byte " + b, x.fault(0), want);
            }
        }
        String[] texts = {"x=1;y=1", "g=9;c=9", "g=1;;;", "g==", "gg=1", "g=1c=1", "g=1;c=1;e=1;p=1;x", "g=1;c=1;e=1;p=1 "};
        int[] first = {0, 2, 4, 2, 1, 3, 16, 15};
        for (int i = 0; i < texts.length; i++) {
            HeardWords x = new HeardWords();
            Edges.law(x, 1, texts[i]);
            Edges.due("the first fault of " + texts[i], x.fault(1), first[i]);
            x.type(1, ';');
            Edges.due("a byte behind it does not mend it", x.fault(1), first[i]);
        }
    }

    private static void faultsAtTheEnd() {
        Edges.by("(an empty text is well)");
        HeardWords x = new HeardWords();
        Edges.due("law 0 at first", x.fault(0), Edges.NONE);
        Edges.due("law 1 at first", x.fault(1), Edges.NONE);
        String text = "g=1;c=2;e=1;p=1;g=2;c=0;e=0;p=0;g=4;c=1;";
        for (int n = 1; n <= 40; n++) {
            x.type(0, text.charAt(n - 1));
            Edges.due("fault of " + n + " bytes", x.fault(0), n % 4 == 3 ? Edges.NONE : n);
        }
        x.wipe(0);
        Edges.due("wiped", x.fault(0), Edges.NONE);
    }

    private static void asWithoutAnyPart() {
        Edges.by("With a FAULT it is as without any part.");
        int[] without = {2, 0, 0, 0};
        int[] with = {3, 1, 1, 1};
        String text = "g=3;c=1;e=1;p=1";
        HeardWords x = new HeardWords();
        Edges.law(x, 0, text);
        for (int which = 0; which < 4; which++) {
            Edges.due("well: " + which, x.law(0, which), with[which]);
        }
        x.type(0, ';');
        for (int which = 0; which < 4; which++) {
            Edges.due("a byte too many: " + which, x.law(0, which), without[which]);
        }
        x.type(0, 'p');
        x.type(0, '=');
        x.type(0, '0');
        with[3] = 0;
        for (int which = 0; which < 4; which++) {
            Edges.due("whole again: " + which, x.law(0, which), with[which]);
        }
        x = new HeardWords();
        Edges.charge(x, 1, 1);
        Edges.charge(x, 3, 1);
        Edges.law(x, 0, "g=1;c=3");
        Edges.due("heard as by a law without any part", x.heard(0, 0), 2);
        Edges.due("at once as well", x.least(0), 2);
    }

    // ---- sheets

    private static void sheets() {
        Edges.by("SHEETS 0 .. 3 are LOST (at first) or a row of a FORM: 0 bytes, 1 shorts, 2 ints, of 0 to 40 items (0 at first).");
        for (int s = 0; s <= 3; s++) {
            int at = s;
            Edges.refused("lose(" + s + ") at first", Edges::bare, y -> y.lose(at), Edges.NULL);
            for (int form = 0; form <= 2; form++) {
                HeardWords x = new HeardWords();
                Edges.due("sheet(" + s + ", " + form + ", 40)", x.sheet(s, form, 40), 40);
                Edges.due("the first item at first", x.get(s, form, 0), 0);
                Edges.due("the last item at first", x.get(s, form, 39), 0);
                x.put(s, form, 39, 5);
                Edges.due("sheet(" + s + ", " + form + ", 40) again", x.sheet(s, form, 40), 40);
                Edges.due("0 at first again", x.get(s, form, 39), 0);
                Edges.due("no finding yet", x.count(8), 0);
                Edges.due("a row of none", x.sheet(s, form, 0), 0);
                Edges.due("is not lost", x.lose(s), 0);
                Edges.due("now it is", x.lose(s), Edges.NULL);
            }
        }
        int[] none = Edges.outside(0, 3);
        Edges.refusedWith("sheet", Edges::court, (y, s) -> y.sheet(s, 0, 1), Edges.BAD, none);
        Edges.refusedWith("lose", Edges::court, (y, s) -> y.lose(s), Edges.BAD, none);
        Edges.refusedWith("put", Edges::court, (y, s) -> y.put(s, 0, 0, 1), Edges.BAD, none);
        Edges.refusedWith("copy from", Edges::court, (y, s) -> y.copy(s, 0, 0, 0, 1), Edges.BAD, none);
        Edges.refusedWith("copy to", Edges::court, (y, s) -> y.copy(0, 0, s, 0, 1), Edges.BAD, none);
        Edges.refusedWith("write", Edges::court, (y, s) -> y.write(s), Edges.BAD, none);
        Edges.refusedWith("read", Edges::court, (y, s) -> y.read(s), Edges.BAD, none);
        Edges.refusedWith("ordered", Edges::court, (y, s) -> y.ordered(0, s, 0), Edges.BAD, none);
        for (int s : none) {
            Edges.refusedGet("get of sheet " + s, Edges::court, y -> y.get(s, 0, 0), 0);
        }
        for (int form : Edges.outside(0, 2)) {
            Edges.refused("sheet of form " + form, Edges::court, y -> y.sheet(0, form, 1), Edges.BAD);
            Edges.refused("put as form " + form, Edges::court, y -> y.put(0, form, 0, 1), Edges.BAD);
            Edges.refusedGet("get as form " + form, Edges::court, y -> y.get(0, form, 0), 0);
        }
    }

    private static void findings() {
        Edges.by("FINDINGS (answers -10 less the number; they change nothing but count() 8): 1 NULL: the SHEET is LOST; "
            + "2 INDEX: there is no such item; 3 CAST: it has another FORM; 4 STORE: unlike FORMS; 5 SIZE: below 0.");
        Edges.refused("NULL", Edges::court, y -> y.lose(3), -11);
        Edges.refused("INDEX", Edges::court, y -> y.put(0, 0, 5, 1), -12);
        Edges.refused("CAST", Edges::court, y -> y.put(0, 1, 0, 1), -13);
        Edges.refused("STORE", Edges::court, y -> y.copy(0, 0, 1, 0, 1), -14);
        Edges.refused("SIZE", Edges::court, y -> y.sheet(0, 0, -1), -15);
        HeardWords x = Edges.court();
        Edges.due("before any", x.count(8), 0);
        x.lose(3);
        Edges.due("behind NULL", x.count(8), 1);
        x.put(0, 0, 5, 1);
        Edges.due("behind INDEX", x.count(8), 2);
        x.put(0, 1, 0, 1);
        Edges.due("behind CAST", x.count(8), 3);
        x.copy(0, 0, 1, 0, 1);
        Edges.due("behind STORE", x.count(8), 4);
        x.sheet(0, 0, -1);
        Edges.due("behind SIZE", x.count(8), 5);
        x.put(0, 0, 0, 1);
        x.sheet(3, 0, 1);
        Edges.due("the latest stays when calls go well", x.count(8), 5);
    }

    private static void callsAtMost() {
        Edges.by("An object is used for at most 512 calls after it has been made");
        HeardWords x = new HeardWords();
        HeardWords twin = new HeardWords();
        Edges.charge(x, 3, 9);
        Edges.charge(twin, 3, 9);
        for (int call = 2; call <= 511; call++) {
            x.sheet(call % 4, call % 3, call % 41);
        }
        Edges.due("the 512th call", x.digest(), twin.digest());
    }
}
