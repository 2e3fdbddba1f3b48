import java.lang.reflect.Method;
import java.util.ArrayList;
import java.util.Arrays;
import java.util.HashMap;
import java.util.LinkedHashSet;
import java.util.List;
import java.util.Map;
import java.util.Random;
import java.util.Set;
import java.util.TreeMap;
import java.util.TreeSet;

/**
 * Random runs, from fixed seeds, of HeardWords against Model: a second reading of the document that is as plain and
 * slow as its words (sets of numbers, all paths, all permutations, all subsets), and shares no code with the class.
 */
public final class ModelTest {
    private static final String[] CALLS = {"road 3", "away 2", "word 5", "read 1", "is 2", "keep 1", "type 2", "wipe 1", "fault 1", "law 2",
        "heard 2", "ordered 3", "head 2", "orders 2", "strikes 3", "sound 2", "least 1", "full 2", "firm 2", "ring 0", "chain 1", "hangs 1",
        "most 0", "brings 2", "part 0", "sheet 3", "lose 1", "put 4", "get 3", "copy 5", "write 1", "count 1", "digest 0"};

    public static void main(String[] args) throws Exception {
        int runs = args.length > 0 ? Integer.parseInt(args[0]) : 400;
        long seed = args.length > 1 ? Long.parseLong(args[1]) : 1;
        Map<String, Method> methods = new HashMap<>();
        for (Method m : HeardWords.class.getDeclaredMethods()) {
            if (java.lang.reflect.Modifier.isPublic(m.getModifiers())) {
                methods.put(m.getName(), m);
            }
        }
        Map<String, Integer> asked = new TreeMap<>();
        int wrong = 0;
        for (int run = 0; run < runs && wrong < 5; run++) {
            Run r = new Run(new Random(seed * 1000003 + run), methods, asked);
            if (!r.agrees()) {
                wrong++;
                System.out.println("seed " + seed + " run " + run + ":\n" + String.join("\n", r.log));
            }
        }
        for (String call : CALLS) {
            String name = call.split(" ")[0];
            if (asked.getOrDefault(name, 0) == 0) {
                wrong++;
                System.out.println(name + " was never asked");
            }
        }
        System.out.println(wrong == 0 ? "ModelTest: " + runs + " runs agree with the model" : wrong + " runs do not agree");
        if (wrong != 0) {
            System.exit(1);
        }
    }

    /** One object of each, at most 512 calls. */
    private static final class Run {
        final Random random;
        final Map<String, Method> methods;
        final Map<String, Integer> asked;
        final HeardWords x = new HeardWords();
        final Model model = new Model();
        final List<String> log = new ArrayList<>();
        boolean agrees = true;
        int calls = 0;

        Run(Random random, Map<String, Method> methods, Map<String, Integer> asked) {
            this.random = random;
            this.methods = methods;
            this.asked = asked;
        }

        boolean agrees() throws Exception {
            int scenes = 1 + random.nextInt(6);
            for (int i = 0; i < scenes; i++) {
                typeLaws();
                for (int w = random.nextInt(8); w > 0; w--) {
                    tellWord();
                }
                for (int k = random.nextInt(50); k > 0; k--) {
                    anyCall();
                }
            }
            return agrees;
        }

        void call(String name, int... a) throws Exception {
            if (calls >= 512 || !agrees) {
                return;
            }
            calls++;
            asked.merge(name, 1, Integer::sum);
            Object[] boxed = Arrays.stream(a).boxed().toArray();
            long got = ((Number) methods.get(name).invoke(x, boxed)).longValue();
            long want = model.answer(name, a);
            log.add(name + Arrays.toString(a) + " " + got);
            if (got != want) {
                agrees = false;
                log.add("  due is " + want);
            }
        }

        int pick(int... from) {
            return from[random.nextInt(from.length)];
        }

        int upTo(int n) {
            return random.nextInt(n + 1);
        }

        /** A number of 0 to n - 1, but now and then one that is not as told. */
        int mostly(int n) {
            if (random.nextInt(40) == 0) {
                return pick(-1, n, -2, n + 1, Integer.MIN_VALUE, Integer.MAX_VALUE);
            }
            return n <= 0 ? 0 : random.nextInt(n);
        }

        int someWord() {
            return mostly(model.words.size());
        }

        int someGroup() {
            int group = 0;
            for (int i = pick(1, 2, 2, 2, 3, 3, 4, 5); i > 0; i--) {
                group |= 1 << random.nextInt(10);
            }
            return random.nextInt(50) == 0 ? pick(0, 1023, 1024, -1) : group;
        }

        int someBits() {
            int all = (1 << model.words.size()) - 1;
            int bits = random.nextInt(1024) & all & (random.nextInt(3) == 0 ? 1023 : random.nextInt(1024));
            return random.nextInt(40) == 0 ? bits | pick(1024, all + 1, Integer.MIN_VALUE) : bits;
        }

        void typeLaws() throws Exception {
            for (int law = 0; law < 2; law++) {
                if (random.nextInt(3) == 0) {
                    continue;
                }
                call("wipe", law);
                int parts = random.nextInt(5);
                StringBuilder text = new StringBuilder();
                for (int i = 0; i < parts; i++) {
                    text.append(i == 0 ? "" : ";").append(pickPart());
                }
                if (random.nextInt(8) == 0 && text.length() > 0) {
                    text.setCharAt(random.nextInt(text.length()), (char) pick('g', ';', '=', '0', '3', 'x', 0, 255));
                }
                if (random.nextInt(20) == 0) {
                    text.append(";g=1;g=1;g=1;g=1;g=1;g=1;g=1;g=1;g=1;g=1");
                }
                for (char c : text.toString().toCharArray()) {
                    call("type", law, c);
                }
                call("fault", law);
            }
        }

        String pickPart() {
            String[] part = {"g=1", "g=1", "g=2", "g=3", "g=4", "c=0", "c=1", "c=1", "c=2", "c=2", "e=0", "e=1", "e=1", "p=0", "p=1", "p=1"};
            return part[random.nextInt(part.length)];
        }

        void tellWord() throws Exception {
            int kind = model.words.isEmpty() ? 0 : pick(0, 1, 1, 2, 2, 2);
            int about = kind == 0 ? mostly(100) : someWord();
            call("word", random.nextInt(60) == 0 ? 3 : kind, someGroup(), mostly(6), pick(0, 1, 2, 3, 5, 8, 999, mostly(1000)), about);
        }

        void anyCall() throws Exception {
            switch (random.nextInt(22)) {
                case 0: call("road", mostly(6), mostly(6), pick(0, 1, 1, 2, 3, 5, 99, mostly(100))); break;
                case 1: call("away", mostly(6), mostly(6)); break;
                case 2: call("keep", someBits()); break;
                case 3: call("is", someWord(), mostly(7)); break;
                case 4: call("law", mostly(2), mostly(4)); break;
                case 5: call("heard", mostly(2), mostly(3)); break;
                case 6: orderOnSheet(); break;
                case 7: call("head", mostly(2), mostly(10)); break;
                case 8: call("orders", mostly(2), random.nextInt(5) == 0 ? -1 : someWord()); break;
                case 9: call("strikes", mostly(2), someWord(), someWord()); break;
                case 10: call("sound", mostly(2), someBits()); break;
                case 11: call("least", mostly(2)); break;
                case 12: call("full", mostly(2), pick(-1, 0, 1, 2, mostly(10))); break;
                case 13: call("firm", mostly(2), someWord()); break;
                case 14: call("ring"); call("most"); break;
                case 15: call("chain", someWord()); break;
                case 16: call("hangs", someWord()); break;
                case 17: call("brings", someWord(), mostly(2)); break;
                case 18: call("part"); break;
                case 19: sheetCall(); sheetCall(); break;
                case 20: wordsOnSheet(); break;
                default: call("count", mostly(9)); call("digest"); break;
            }
        }

        void orderOnSheet() throws Exception {
            int s = random.nextInt(4);
            int form = random.nextInt(3);
            List<Integer> order = new ArrayList<>();
            for (int w = 0; w < model.words.size(); w++) {
                if (!model.kept.contains(w) || random.nextInt(40) == 0) {
                    order.add(w);
                }
            }
            java.util.Collections.shuffle(order, random);
            while (order.size() > 0 && random.nextInt(4) == 0) {
                order.remove(0);
            }
            if (random.nextInt(10) == 0) {
                order.add(someWord());
            }
            call("sheet", s, form, order.size());
            for (int i = 0; i < order.size(); i++) {
                call("put", s, form, i, order.get(i));
            }
            int law = mostly(2);
            for (int what = 0; what < 3; what++) {
                call("ordered", law, s, what);
            }
            call("ordered", law, s, mostly(3));
        }

        void wordsOnSheet() throws Exception {
            int s = random.nextInt(4);
            int form = random.nextInt(3);
            int words = random.nextInt(3);
            call("sheet", s, form, words * 5 + random.nextInt(5));
            for (int w = 0; w < words; w++) {
                int kind = model.words.isEmpty() && w == 0 ? 0 : random.nextInt(3);
                int[] items = {kind, someGroup(), mostly(6), mostly(100), kind == 0 ? mostly(100) : mostly(model.words.size() + w)};
                for (int i = 0; i < 5; i++) {
                    call("put", s, form, w * 5 + i, items[i]);
                }
            }
            call("read", s);
        }

        void sheetCall() throws Exception {
            int s = mostly(4);
            int form = mostly(3);
            if (s >= 0 && s < 4 && model.sheets[s] != null && random.nextInt(8) != 0) {
                form = model.sheets[s].form;
            }
            switch (random.nextInt(8)) {
                case 0: call("sheet", s, form, pick(0, 1, 5, 10, 12, 40, mostly(41))); break;
                case 1: call("lose", s); break;
                case 2: case 3: call("put", s, form, mostly(12), pick(1, 127, 128, 255, 256, 32767, 32768, -1, random.nextInt())); break;
                case 4: call("get", s, form, mostly(12)); break;
                case 5: call("copy", s, mostly(6), random.nextBoolean() ? s : mostly(4), mostly(6), mostly(6)); break;
                case 6: call("write", s); call("get", s, form, mostly(10)); break;
                default: call("read", mostly(4)); call("count", 8); break;
            }
        }
    }

    private record Told(int kind, Set<Integer> group, int bits, int town, int hour, int about) {
    }

    private static final class Row {
        final int form;
        final int[] items;

        Row(int form, int n) {
            this.form = form;
            this.items = new int[n];
        }
    }

    private record Read(int g, int c, int e, int p) {
    }

    private static final class Outcome {
        final Set<Integer> stand = new TreeSet<>();
        final Set<Integer> undone = new TreeSet<>();
        final Set<Integer> out = new TreeSet<>();
    }

    private static final class Model {
        final Map<Set<Integer>, Integer> roads = new HashMap<>();
        final List<Told> words = new ArrayList<>();
        Set<Integer> kept = new TreeSet<>();
        final String[] laws = {"", ""};
        final Row[] sheets = new Row[4];
        int finding = 0;

        long answer(String name, int[] a) {
            switch (name) {
                case "road": return road(a[0], a[1], a[2]);
                case "away": return in(a[0], 0, 5) && in(a[1], 0, 5) ? away(a[0], a[1]) : -2;
                case "word": return word(a[0], a[1], a[2], a[3], a[4]);
                case "read": return read(a[0]);
                case "is": return is(a[0], a[1]);
                case "keep": return keep(a[0]);
                case "type": return type(a[0], a[1]);
                case "wipe": return wipe(a[0]);
                case "fault": return in(a[0], 0, 1) ? fault(laws[a[0]]) : -2;
                case "law": return law(a[0], a[1]);
                case "heard": return in(a[0], 0, 1) && in(a[1], 0, 2) ? told(hear(parse(a[0]), listOf(heard())), a[1]) : -2;
                case "ordered": return ordered(a[0], a[1], a[2]);
                case "head": return in(a[0], 0, 1) && in(a[1], 0, 9) ? head(hear(parse(a[0]), listOf(heard())), a[1]) : -2;
                case "orders": return orders(a[0], a[1]);
                case "strikes": return !in(a[0], 0, 1) || !isWord(a[1]) || !isWord(a[2]) ? -2 : strikes(parse(a[0]), heard(), a[1], a[2]) ? 1 : 0;
                case "sound": return !in(a[0], 0, 1) || !areWords(a[1]) ? -2 : sound(parse(a[0]), heard(), setOf(a[1])) ? 1 : 0;
                case "least": return in(a[0], 0, 1) ? bits(least(parse(a[0]), heard())) : -2;
                case "full": return full(a[0], a[1]);
                case "firm": return firm(a[0], a[1]);
                case "ring": return ring();
                case "chain": return isWord(a[0]) ? chain(a[0]) : -2;
                case "hangs": return isWord(a[0]) && !kept.contains(a[0]) ? hangs(a[0]) : -2;
                case "most": return most();
                case "brings": return brings(a[0], a[1]);
                case "part": return part();
                case "digest": return digest();
                default: return sheetAnswer(name, a);
            }
        }

        long sheetAnswer(String name, int[] a) {
            switch (name) {
                case "sheet": return sheet(a[0], a[1], a[2]);
                case "lose": return lose(a[0]);
                case "put": return put(a[0], a[1], a[2], a[3]);
                case "get": return get(a[0], a[1], a[2]);
                case "copy": return copy(a[0], a[1], a[2], a[3], a[4]);
                case "write": return write(a[0]);
                case "count": return count(a[0]);
                default: throw new IllegalStateException(name);
            }
        }

        static boolean in(int v, int from, int to) {
            return from <= v && v <= to;
        }

        boolean isWord(int w) {
            return in(w, 0, words.size() - 1);
        }

        boolean areWords(int bits) {
            return bits >= 0 && bits < 1 << words.size();
        }

        static Set<Integer> setOf(int bits) {
            Set<Integer> set = new TreeSet<>();
            for (int i = 0; i < 32; i++) {
                if ((bits & 1 << i) != 0) {
                    set.add(i);
                }
            }
            return set;
        }

        static int bits(Set<Integer> set) {
            int bits = 0;
            for (int i : set) {
                bits |= 1 << i;
            }
            return bits;
        }

        static List<Integer> listOf(Set<Integer> set) {
            return new ArrayList<>(set);
        }

        int found(int number) {
            finding = number;
            return -10 - number;
        }

        // ---- towns, words

        int road(int a, int b, int hours) {
            if (!in(a, 0, 5) || !in(b, 0, 5) || a == b || !in(hours, 0, 99)) {
                return -2;
            }
            Integer before = hours == 0 ? roads.remove(Set.of(a, b)) : roads.put(Set.of(a, b), hours);
            return before == null ? 0 : before;
        }

        int away(int a, int b) {
            int best = shortest(a, b, new TreeSet<>());
            return best == Integer.MAX_VALUE ? 1000 : best;
        }

        int shortest(int a, int b, Set<Integer> been) {
            if (a == b) {
                return 0;
            }
            int best = Integer.MAX_VALUE;
            been.add(a);
            for (int next = 0; next < 6; next++) {
                if (!been.contains(next) && roads.containsKey(Set.of(a, next))) {
                    int rest = shortest(next, b, been);
                    if (rest != Integer.MAX_VALUE) {
                        best = Math.min(best, roads.get(Set.of(a, next)) + rest);
                    }
                }
            }
            been.remove(a);
            return best;
        }

        int word(int kind, int group, int town, int hour, int about) {
            boolean well = in(kind, 0, 2) && in(group, 1, 1023) && in(town, 0, 5) && in(hour, 0, 999)
                && (kind == 0 ? in(about, 0, 99) : isWord(about));
            if (!well) {
                return -2;
            }
            if (words.size() == 10) {
                return -4;
            }
            words.add(new Told(kind, setOf(group), group, town, hour, about));
            return words.size() - 1;
        }

        int read(int s) {
            if (!in(s, 0, 3)) {
                return -2;
            }
            if (sheets[s] == null) {
                return found(1);
            }
            int[] i = sheets[s].items;
            int told = 0;
            while (told < i.length / 5
                && word(i[told * 5], i[told * 5 + 1], i[told * 5 + 2], i[told * 5 + 3], i[told * 5 + 4]) >= 0) {
                told++;
            }
            return told;
        }

        boolean possible(int w) {
            Told t = words.get(w);
            return t.kind == 2 && away(t.town, words.get(t.about).town) > Math.abs(t.hour - words.get(t.about).hour);
        }

        int is(int w, int what) {
            if (!isWord(w) || !in(what, 0, 6)) {
                return -2;
            }
            Told t = words.get(w);
            return new int[] {t.kind, t.bits, t.town, t.hour, t.about, kept.contains(w) ? 1 : 0, possible(w) ? 1 : 0}[what];
        }

        int keep(int bits) {
            if (!areWords(bits)) {
                return -2;
            }
            int before = bits(kept);
            kept = setOf(bits);
            return before;
        }

        Set<Integer> heard() {
            Set<Integer> set = new TreeSet<>();
            for (int w = 0; w < words.size(); w++) {
                if (!kept.contains(w)) {
                    set.add(w);
                }
            }
            return set;
        }

        // ---- laws

        int type(int law, int b) {
            if (!in(law, 0, 1) || !in(b, 0, 255)) {
                return -2;
            }
            if (laws[law].length() == 40) {
                return -4;
            }
            laws[law] += (char) b;
            return laws[law].length();
        }

        int wipe(int law) {
            if (!in(law, 0, 1)) {
                return -2;
            }
            int before = laws[law].length();
            laws[law] = "";
            return before;
        }

        static final String PART = "(g=[1-4]|c=[0-2]|e=[01]|p=[01])";

        static boolean well(String text) {
            return text.isEmpty() || text.matches(PART + "(;" + PART + ")*");
        }

        /** The longest front of the text that some well text begins with. */
        static int fault(String text) {
            if (well(text)) {
                return -1;
            }
            String[] ends = {"", "=1", "1", "g=1", ";g=1"};
            for (int n = text.length(); n >= 0; n--) {
                for (String end : ends) {
                    if (well(text.substring(0, n) + end)) {
                        return n;
                    }
                }
            }
            throw new IllegalStateException();
        }

        Read parse(int law) {
            int[] v = {2, 0, 0, 0};
            if (fault(laws[law]) == -1 && !laws[law].isEmpty()) {
                for (String part : laws[law].split(";")) {
                    v["gcep".indexOf(part.charAt(0))] = part.charAt(2) - '0';
                }
            }
            return new Read(v[0], v[1], v[2], v[3]);
        }

        int law(int law, int which) {
            if (!in(law, 0, 1) || !in(which, 0, 3)) {
                return -2;
            }
            Read r = parse(law);
            return new int[] {r.g, r.c, r.e, r.p}[which];
        }

        // ---- heard in an order

        Outcome hear(Read law, List<Integer> order) {
            Outcome o = new Outcome();
            for (int it : order) {
                Set<Integer> in = new TreeSet<>(words.get(it).group);
                in.removeAll(o.out);
                boolean able = in.size() >= law.g && (law.p == 1 || in.size() == words.get(it).group.size());
                if (!able) {
                    continue;
                }
                o.stand.add(it);
                for (int other : new TreeSet<>(o.stand)) {
                    boolean foes = isAgainst(it, other) || isAgainst(other, it);
                    if (foes && o.stand.contains(it) && o.stand.contains(other)) {
                        quarrel(law, o, other, it);
                    }
                }
                elsewhere(law, o, it);
            }
            return o;
        }

        boolean isAgainst(int a, int b) {
            return words.get(a).kind == 1 && words.get(a).about == b;
        }

        boolean canUndo(int a, int b) {
            return words.get(a).kind == 2 && words.get(a).about == b && possible(a);
        }

        void quarrel(Read law, Outcome o, int earlier, int later) {
            int a = words.get(earlier).group.size();
            int b = words.get(later).group.size();
            if (law.c == 0 || law.c == 2 && a <= b) {
                o.stand.remove(earlier);
            }
            if (law.c == 0 || law.c == 1 || b <= a) {
                o.stand.remove(later);
            }
        }

        void elsewhere(Read law, Outcome o, int it) {
            if (!o.stand.contains(it)) {
                return;
            }
            Integer gone = null;
            for (int other : o.stand) {
                if (canUndo(it, other)) {
                    gone = other;
                }
            }
            if (gone == null) {
                for (int other : o.stand) {
                    if (canUndo(other, it)) {
                        gone = it;
                    }
                }
            }
            if (gone != null) {
                o.stand.remove(gone);
                o.undone.add(gone);
                if (law.e == 1) {
                    o.out.addAll(words.get(gone).group);
                }
            }
        }

        static int told(Outcome o, int what) {
            return bits(what == 0 ? o.stand : what == 1 ? o.undone : o.out);
        }

        int ordered(int law, int s, int what) {
            if (!in(law, 0, 1) || !in(s, 0, 3) || !in(what, 0, 2)) {
                return -2;
            }
            if (sheets[s] == null) {
                return found(1);
            }
            Set<Integer> order = new LinkedHashSet<>();
            for (int item : sheets[s].items) {
                if (!isWord(item) || kept.contains(item) || !order.add(item)) {
                    return -3;
                }
            }
            return told(hear(parse(law), listOf(order)), what);
        }

        int head(Outcome o, int witness) {
            int sum = 0;
            for (int w : o.undone) {
                if (words.get(w).kind == 0 && words.get(w).group.contains(witness)) {
                    sum += words.get(w).about;
                }
            }
            return sum;
        }

        int orders(int law, int word) {
            if (!in(law, 0, 1) || word != -1 && !isWord(word)) {
                return -2;
            }
            if (heard().size() > 7) {
                return -4;
            }
            return permute(parse(law), new ArrayList<>(), heard(), word);
        }

        int permute(Read law, List<Integer> order, Set<Integer> left, int word) {
            if (left.isEmpty()) {
                return word == -1 || hear(law, order).stand.contains(word) ? 1 : 0;
            }
            int sum = 0;
            for (int w : listOf(left)) {
                left.remove(w);
                order.add(w);
                sum += permute(law, order, left, word);
                order.remove(order.size() - 1);
                left.add(w);
            }
            return sum;
        }

        // ---- heard at once

        boolean admits(Read law, Set<Integer> heard, int w) {
            return heard.contains(w) && words.get(w).group.size() >= law.g;
        }

        boolean strikes(Read law, Set<Integer> heard, int a, int b) {
            if (!admits(law, heard, a) || !admits(law, heard, b)) {
                return false;
            }
            if (canUndo(a, b)) {
                return true;
            }
            if (!isAgainst(a, b) && !isAgainst(b, a)) {
                return false;
            }
            switch (law.c) {
                case 0: return true;
                case 1: return a < b;
                default: return words.get(a).group.size() >= words.get(b).group.size();
            }
        }

        boolean sound(Read law, Set<Integer> heard, Set<Integer> set) {
            for (int a : set) {
                if (!admits(law, heard, a)) {
                    return false;
                }
                for (int b : set) {
                    if (strikes(law, heard, a, b)) {
                        return false;
                    }
                }
                for (int striker = 0; striker < words.size(); striker++) {
                    if (strikes(law, heard, striker, a) && !isStruckBy(law, heard, striker, set)) {
                        return false;
                    }
                }
            }
            return true;
        }

        boolean isStruckBy(Read law, Set<Integer> heard, int w, Set<Integer> set) {
            for (int a : set) {
                if (strikes(law, heard, a, w)) {
                    return true;
                }
            }
            return false;
        }

        Set<Integer> least(Read law, Set<Integer> heard) {
            Set<Integer> set = new TreeSet<>();
            boolean grew = true;
            while (grew) {
                Set<Integer> next = new TreeSet<>(set);
                for (int w : heard) {
                    boolean free = admits(law, heard, w);
                    for (int striker : heard) {
                        free &= !strikes(law, heard, striker, w) || isStruckBy(law, heard, striker, set);
                    }
                    if (free) {
                        next.add(w);
                    }
                }
                grew = next.size() > set.size();
                set = next;
            }
            return set;
        }

        List<Integer> fullSets(Read law) {
            List<Integer> sound = new ArrayList<>();
            for (int set = 0; set < 1 << words.size(); set++) {
                if (sound(law, heard(), setOf(set))) {
                    sound.add(set);
                }
            }
            List<Integer> full = new ArrayList<>();
            for (int set : sound) {
                boolean greatest = true;
                for (int other : sound) {
                    greatest &= other == set || (set & other) != set;
                }
                if (greatest) {
                    full.add(set);
                }
            }
            return full;
        }

        int full(int law, int i) {
            if (!in(law, 0, 1) || i < -1) {
                return -2;
            }
            List<Integer> full = fullSets(parse(law));
            return i == -1 ? full.size() : i < full.size() ? full.get(i) : -1;
        }

        int firm(int law, int word) {
            if (!in(law, 0, 1) || !isWord(word)) {
                return -2;
            }
            int in = 0;
            List<Integer> full = fullSets(parse(law));
            for (int set : full) {
                in += (set & 1 << word) != 0 ? 1 : 0;
            }
            return in == full.size() ? 2 : in > 0 ? 1 : 0;
        }

        // ---- rings, chains, what is wanted

        int ring() {
            Read law = parse(0);
            Set<Integer> ring = new TreeSet<>();
            for (int w : heard()) {
                Set<Integer> reached = new TreeSet<>();
                List<Integer> todo = new ArrayList<>(List.of(w));
                while (!todo.isEmpty()) {
                    int from = todo.remove(0);
                    for (int to : heard()) {
                        if (strikes(law, heard(), from, to) && reached.add(to)) {
                            todo.add(to);
                        }
                    }
                }
                if (reached.contains(w)) {
                    ring.add(w);
                }
            }
            return bits(ring);
        }

        int chain(int word) {
            int longest = 0;
            for (int w : heard()) {
                if (canUndo(w, word)) {
                    longest = Math.max(longest, 1 + chain(w));
                }
            }
            return longest;
        }

        int hangs(int word) {
            Set<Integer> without = heard();
            without.remove(word);
            Set<Integer> one = hear(parse(0), listOf(heard())).stand;
            Set<Integer> other = hear(parse(0), listOf(without)).stand;
            int hanging = 0;
            for (int w : without) {
                hanging += one.contains(w) != other.contains(w) ? 1 : 0;
            }
            return hanging;
        }

        int most() {
            int best = -1;
            for (int w : heard()) {
                if (best == -1 || hangs(w) > hangs(best)) {
                    best = w;
                }
            }
            return best;
        }

        int brings(int word, int up) {
            if (!isWord(word) || words.get(word).kind != 0 || kept.contains(word) || !in(up, 0, 1)) {
                return -2;
            }
            for (int many = 0; many <= 10; many++) {
                for (int set = 0; set < 1 << words.size(); set++) {
                    if (Integer.bitCount(set) == many && kept.containsAll(setOf(set))) {
                        Set<Integer> heard = heard();
                        heard.addAll(setOf(set));
                        if (least(parse(0), heard).contains(word) == (up == 1)) {
                            return set;
                        }
                    }
                }
            }
            return -1;
        }

        int part() {
            for (int many = 0; many <= 10; many++) {
                for (int set = 0; set < 1 << words.size(); set++) {
                    if (Integer.bitCount(set) == many && heard().containsAll(setOf(set))) {
                        List<Integer> order = listOf(setOf(set));
                        if (!hear(parse(0), order).stand.equals(hear(parse(1), order).stand)) {
                            return set;
                        }
                    }
                }
            }
            return -1;
        }

        // ---- sheets

        int sheet(int s, int form, int n) {
            if (!in(s, 0, 3) || !in(form, 0, 2) || n > 40) {
                return -2;
            }
            if (n < 0) {
                return found(5);
            }
            sheets[s] = new Row(form, n);
            return n;
        }

        int lose(int s) {
            if (!in(s, 0, 3)) {
                return -2;
            }
            if (sheets[s] == null) {
                return found(1);
            }
            int n = sheets[s].items.length;
            sheets[s] = null;
            return n;
        }

        int findingAt(int s, int form, int i) {
            Row row = sheets[s];
            return row == null ? 1 : row.form != form ? 3 : in(i, 0, row.items.length - 1) ? 0 : 2;
        }

        static int cut(int form, int v) {
            return form == 0 ? (byte) v : form == 1 ? (short) v : v;
        }

        int put(int s, int form, int i, int v) {
            if (!in(s, 0, 3) || !in(form, 0, 2)) {
                return -2;
            }
            if (findingAt(s, form, i) != 0) {
                return found(findingAt(s, form, i));
            }
            sheets[s].items[i] = cut(form, v);
            return 1;
        }

        int get(int s, int form, int i) {
            if (!in(s, 0, 3) || !in(form, 0, 2)) {
                return Integer.MIN_VALUE;
            }
            if (findingAt(s, form, i) != 0) {
                found(findingAt(s, form, i));
                return Integer.MIN_VALUE;
            }
            return sheets[s].items[i];
        }

        int copy(int s, int i, int t, int j, int n) {
            if (!in(s, 0, 3) || !in(t, 0, 3)) {
                return -2;
            }
            if (sheets[s] == null || sheets[t] == null) {
                return found(1);
            }
            if (sheets[s].form != sheets[t].form) {
                return found(4);
            }
            if (i < 0 || j < 0 || n < 0 || (long) i + n > sheets[s].items.length || (long) j + n > sheets[t].items.length) {
                return found(2);
            }
            int[] from = sheets[s].items.clone();
            for (int k = 0; k < n; k++) {
                sheets[t].items[j + k] = from[i + k];
            }
            return 1;
        }

        int write(int s) {
            if (!in(s, 0, 3)) {
                return -2;
            }
            if (sheets[s] == null) {
                return found(1);
            }
            int n = 0;
            for (; n < 10 && n < sheets[s].items.length; n++) {
                sheets[s].items[n] = cut(sheets[s].form, head(hear(parse(0), listOf(heard())), n));
            }
            return n;
        }

        int count(int what) {
            Set<Integer> possible = new TreeSet<>();
            for (int w = 0; w < words.size(); w++) {
                if (possible(w)) {
                    possible.add(w);
                }
            }
            switch (what) {
                case 0: return words.size();
                case 1: return bits(kept);
                case 2: return laws[0].length();
                case 3: return laws[1].length();
                case 4: return roads.size();
                case 5: return bits(possible);
                case 8: return finding;
                default: return -2;
            }
        }

        long digest() {
            List<Long> parts = new ArrayList<>();
            for (int what = 0; what < 6; what++) {
                parts.add((long) count(what));
            }
            for (int w = 0; w < words.size(); w++) {
                for (int what = 0; what < 7; what++) {
                    parts.add((long) is(w, what));
                }
            }
            for (int law = 0; law < 2; law++) {
                parts.add((long) fault(laws[law]));
                for (int which = 0; which < 4; which++) {
                    parts.add((long) law(law, which));
                }
                Outcome o = hear(parse(law), listOf(heard()));
                for (int what = 0; what < 3; what++) {
                    parts.add((long) told(o, what));
                }
                parts.add((long) bits(least(parse(law), heard())));
                parts.add((long) full(law, -1));
            }
            parts.add((long) ring());
            parts.add((long) most());
            long h = 17;
            for (long part : parts) {
                h = 31 * h + part;
            }
            return h;
        }
    }
}
