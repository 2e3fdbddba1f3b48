import java.nio.file.Files;
import java.nio.file.Path;
import java.util.ArrayList;
import java.util.List;
import java.util.function.Supplier;

/** What the edge tests share: the sentence that is at stake, answers that are due by it, and refusals, which may change nothing. */
final class Edges {
    static final int NONE = -1, BAD = -2, NOT = -3, FULL = -4;
    static final int NULL = -11, INDEX = -12, CAST = -13, STORE = -14, SIZE = -15;
    static final int CHARGE = 0, AGAINST = 1, ELSEWHERE = 2;
    static final int LEAST_INT = Integer.MIN_VALUE, GREATEST_INT = Integer.MAX_VALUE;
    private static final int EARLIER_FINDING = 5;

    private static String document = null;
    private static String sentence = "";
    private static int sentences = 0;
    private static int asked = 0;
    private static int wrong = 0;

    private Edges() {
    }

    /** One call, with whatever numbers it has. */
    interface Call {
        long on(HeardWords x);
    }

    /** One call, of which one number is tried out. */
    interface CallWith {
        long on(HeardWords x, int number);
    }

    // ---- sentences and answers

    /** What follows is due by these words; the document must have them, so that no test outlives its sentence. */
    static void by(String words) {
        sentence = words;
        sentences++;
        if (document == null) {
            document = plain(textOfTheDocument());
        }
        if (!document.isEmpty() && !document.contains(plain(words))) {
            wrong++;
            System.out.println("the document does not say: " + words);
        }
    }

    static void due(String what, long got, long want) {
        asked++;
        if (got != want) {
            wrong++;
            System.out.println("\"" + sentence + "\": " + what + " answered " + got + ", due is " + want);
        }
    }

    static void end(String test) {
        System.out.println(test + ": " + sentences + " sentences, " + asked + " answers, " + wrong + " wrong");
        if (wrong != 0) {
            System.exit(1);
        }
    }

    private static String textOfTheDocument() {
        try {
            return Files.readString(Path.of("../shared/DOC.md"));
        } catch (java.io.IOException e) {
            System.out.println("no ../shared/DOC.md here: the sentences are not looked up");
            return "";
        }
    }

    private static String plain(String text) {
        return text.replaceAll("\\s+", " ");
    }

    // ---- refusals

    /** The call is refused so, and changes nothing; a finding changes count() 8, and nothing but that. */
    static void refused(String name, Supplier<HeardWords> scene, Call call, int answer) {
        refusedAs(name, scene, call, answer, answer <= NULL ? -10 - answer : 0);
    }

    /** get() answers every refusal by the least int; count() 8 tells the finding, 0: none. */
    static void refusedGet(String name, Supplier<HeardWords> scene, Call call, int finding) {
        refusedAs(name, scene, call, LEAST_INT, finding);
    }

    /** Refused with each of these numbers. */
    static void refusedWith(String name, Supplier<HeardWords> scene, CallWith call, int answer, int... numbers) {
        for (int number : numbers) {
            refused(name + " with " + number, scene, x -> call.on(x, number), answer);
        }
    }

    /** Numbers that are not from the least to the greatest one: the next ones, far ones, and some whose low bits would do. */
    static int[] outside(int least, int greatest) {
        List<Integer> all = new ArrayList<>(List.of(least - 1, greatest + 1));
        for (int far : new int[] {least + 32, least + 256, least + 65536, greatest - 65536, LEAST_INT, LEAST_INT + greatest, GREATEST_INT}) {
            if (far < least || far > greatest) {
                all.add(far);
            }
        }
        return all.stream().mapToInt(i -> i).toArray();
    }

    /** A call that only asks leaves everything as it was. */
    static void changesNothing(String name, Supplier<HeardWords> scene, Call call) {
        HeardWords asked = scene.get();
        HeardWords twin = scene.get();
        call.on(asked);
        due(name + ": what it changes", firstChange(portrait(asked), portrait(twin)), NONE);
    }

    private static void refusedAs(String name, Supplier<HeardWords> scene, Call call, int answer, int finding) {
        refusedBehind(0, name, scene, call, answer, finding);
        refusedBehind(EARLIER_FINDING, name + " behind a finding", scene, call, answer, finding);
    }

    private static void refusedBehind(int earlier, String name, Supplier<HeardWords> scene, Call call, int answer, int finding) {
        HeardWords x = sceneBehind(earlier, scene);
        HeardWords twin = sceneBehind(earlier, scene);
        due(name, call.on(x), answer);
        due(name + ": count(8)", x.count(8), finding == 0 ? earlier : finding);
        due(name + ": what it changes", firstChange(portrait(x), portrait(twin)), NONE);
    }

    private static HeardWords sceneBehind(int earlier, Supplier<HeardWords> scene) {
        HeardWords x = scene.get();
        if (earlier == EARLIER_FINDING) {
            x.sheet(0, 0, -1);
        }
        return x;
    }

    private static int firstChange(List<Long> one, List<Long> other) {
        for (int i = 0; i < Math.min(one.size(), other.size()); i++) {
            if (!one.get(i).equals(other.get(i))) {
                return i;
            }
        }
        return one.size() == other.size() ? NONE : Math.min(one.size(), other.size());
    }

    // ---- all that can be seen of an object but count() 8; the object is of no use afterwards

    private static List<Long> portrait(HeardWords x) {
        List<Long> seen = new ArrayList<>();
        for (int what = 0; what <= 5; what++) {
            seen.add((long) x.count(what));
        }
        for (int w = 0; w < x.count(0); w++) {
            for (int what = 0; what <= 6; what++) {
                seen.add((long) x.is(w, what));
            }
        }
        seen.add(x.digest());
        for (int s = 0; s < 4; s++) {
            seeSheet(x, s, seen);
        }
        for (int a = 0; a < 6; a++) {
            for (int b = a + 1; b < 6; b++) {
                seen.add((long) x.away(a, b));
            }
        }
        for (int a = 0; a < 6; a++) {
            for (int b = a + 1; b < 6; b++) {
                seen.add((long) x.road(b, a, 1));
            }
        }
        seen.add((long) x.wipe(0));
        seen.add((long) x.wipe(1));
        seen.add((long) x.keep(0));
        return seen;
    }

    private static void seeSheet(HeardWords x, int s, List<Long> seen) {
        int form = formOf(x, s);
        seen.add((long) form);
        if (form != NONE) {
            for (int i = 0; i <= 40; i++) {
                seen.add((long) x.get(s, form, i));
            }
        }
        seen.add((long) x.lose(s));
    }

    private static int formOf(HeardWords x, int s) {
        for (int form = 0; form < 3; form++) {
            x.sheet(0, 0, -1);
            x.get(s, form, 0);
            int finding = x.count(8);
            if (finding == 1) {
                return NONE;
            }
            if (finding != 3) {
                return form;
            }
        }
        return 3;
    }

    // ---- scenes

    static HeardWords bare() {
        return new HeardWords();
    }

    /** Six words of every kind, two of them kept back, roads, two laws, one of them with a fault, a sheet of each form, one lost. */
    static HeardWords court() {
        HeardWords x = new HeardWords();
        x.road(0, 1, 5);
        x.road(1, 2, 7);
        x.road(4, 5, 99);
        x.word(CHARGE, 3, 0, 10, 20);
        x.word(ELSEWHERE, 12, 1, 10, 0);
        x.word(AGAINST, 48, 0, 10, 0);
        x.word(ELSEWHERE, 192, 3, 12, 1);
        x.word(CHARGE, 7, 2, 999, 99);
        x.word(AGAINST, 3, 0, 0, 4);
        x.keep(0b101000);
        law(x, 0, "g=2;e=1");
        law(x, 1, "c=1;p=");
        fill(x, 0, 0, 4, -128, 127, 3, -1);
        fill(x, 1, 1, 32767, -32768, 5);
        fill(x, 2, 2, 4, 0, 2);
        return x;
    }

    /** Ten words, laws of forty bytes, sheets of forty items, every road. */
    static HeardWords brimful() {
        HeardWords x = new HeardWords();
        for (int a = 0; a < 6; a++) {
            for (int b = a + 1; b < 6; b++) {
                x.road(a, b, 99 - a - b);
            }
        }
        for (int w = 0; w < 5; w++) {
            x.word(CHARGE, 1023 >> w, w, 999, 99 - w);
            x.word(w % 2 == 0 ? ELSEWHERE : AGAINST, 3 << w, 5, 999, 2 * w);
        }
        law(x, 0, "g=1;g=2;g=3;g=4;g=1;g=2;g=3;g=4;g=1;c=2;");
        law(x, 1, "p=1;e=1;p=0;e=0;p=1;e=1;p=0;e=0;p=1;e=12");
        for (int s = 0; s < 4; s++) {
            int form = Math.min(s, 2);
            x.sheet(s, form, 40);
            x.put(s, form, 0, -1 - s);
            x.put(s, form, 39, 100 + s);
        }
        return x;
    }

    static void law(HeardWords x, int law, String text) {
        x.wipe(law);
        for (char c : text.toCharArray()) {
            x.type(law, c);
        }
    }

    static void fill(HeardWords x, int s, int form, int... items) {
        x.sheet(s, form, items.length);
        for (int i = 0; i < items.length; i++) {
            x.put(s, form, i, items[i]);
        }
    }

    /** A charge in town 0 at hour 0. */
    static int charge(HeardWords x, int group, int value) {
        return x.word(CHARGE, group, 0, 0, value);
    }

    static int against(HeardWords x, int group, int about) {
        return x.word(AGAINST, group, 0, 0, about);
    }

    /** An elsewhere in a town where the one it is about is not; without roads it is possible. */
    static int elsewhere(HeardWords x, int group, int about) {
        return x.word(ELSEWHERE, group, x.is(about, 2) == 0 ? 1 : 0, 0, about);
    }

    /** An elsewhere in the town and at the hour of the charge, which is never possible. */
    static int beside(HeardWords x, int group, int about) {
        return x.word(ELSEWHERE, group, x.is(about, 2), x.is(about, 3), about);
    }

    /** Words that stand (0), were undone (1), witnesses that are out (2), heard in this order; sheet 3 is used up for it. */
    static int inOrder(HeardWords x, int law, int what, int... order) {
        fill(x, 3, 0, order);
        return x.ordered(law, 3, what);
    }
}
