import java.util.Arrays;

/** Words of witnesses, what of them stands by a law, and what would change it: see DOC.md. */
public final class HeardWords {
    public static final int NONE = -1, BAD = -2, NOT = -3, FULL = -4;

    private static final int TOWNS = 6, MOST_HOURS = 99, NO_WAY = 1000;
    private static final int MOST_WORDS = 10, ALL_WITNESSES = 1023, WITNESSES = 10;
    private static final int LAST_HOUR = 999, MOST_VALUE = 99, WORD_ITEMS = 5;
    private static final int CHARGE = 0, AGAINST = 1, ELSEWHERE = 2;
    private static final int LAW_BYTES = 40, PART_BYTES = 4, MOST_IN_ORDERS = 7;
    private static final int SHEETS = 4, FORMS = 3, MOST_ITEMS = 40;
    private static final int NULL_FOUND = 1, INDEX_FOUND = 2, CAST_FOUND = 3, STORE_FOUND = 4, SIZE_FOUND = 5;
    private static final int LEAST_INT = -2147483648;

    private final Roads roads = new Roads();
    private final Words words = new Words();
    private final Law firstLaw = new Law();
    private final Law secondLaw = new Law();
    private final Sheet[] sheets = new Sheet[SHEETS];
    private final Hearing hearing = new Hearing(words);
    private final AtOnce atOnce = new AtOnce(words);
    private int latestFinding = 0;

    public HeardWords() {
        for (int s = 0; s < SHEETS; s++) {
            sheets[s] = new Sheet();
        }
    }

    // ---- towns, words

    public int road(int a, int b, int hours) {
        if (!isTown(a) || !isTown(b) || a == b || hours < 0 || hours > MOST_HOURS) {
            return BAD;
        }
        int before = roads.build(a, b, hours);
        words.weighAll(roads);
        return before;
    }

    public int away(int a, int b) {
        return isTown(a) && isTown(b) ? roads.between(a, b) : BAD;
    }

    public int word(int kind, int group, int town, int hour, int about) {
        if (!mayBeTold(kind, group, town, hour, about)) {
            return BAD;
        }
        if (words.size >= MOST_WORDS) {
            return FULL;
        }
        return words.tell(kind, group, town, hour, about, roads);
    }

    public int read(int s) {
        Sheet from = sheetOf(s);
        if (from == null) {
            return BAD;
        }
        if (from.lost) {
            return find(NULL_FOUND);
        }
        int told = 0;
        for (int at = 0; at + WORD_ITEMS <= from.size; at += WORD_ITEMS) {
            int[] item = from.items;
            if (word(item[at], item[at + 1], item[at + 2], item[at + 3], item[at + 4]) < 0) {
                return told;
            }
            told++;
        }
        return told;
    }

    public int is(int word, int what) {
        if (!words.has(word)) {
            return BAD;
        }
        switch (what) {
            case 0: return words.kind[word];
            case 1: return words.group[word];
            case 2: return words.town[word];
            case 3: return words.hour[word];
            case 4: return words.about[word];
            case 5: return words.kept >> word & 1;
            case 6: return words.possible >> word & 1;
            default: return BAD;
        }
    }

    public int keep(int words) {
        if ((words & ~this.words.all()) != 0) {
            return BAD;
        }
        int before = this.words.kept;
        this.words.kept = words;
        return before;
    }

    private boolean mayBeTold(int kind, int group, int town, int hour, int about) {
        if (kind < CHARGE || kind > ELSEWHERE || group < 1 || group > ALL_WITNESSES) {
            return false;
        }
        if (!isTown(town) || hour < 0 || hour > LAST_HOUR) {
            return false;
        }
        return kind == CHARGE ? about >= 0 && about <= MOST_VALUE : words.has(about);
    }

    private static boolean isTown(int town) {
        return town >= 0 && town < TOWNS;
    }

    // ---- laws

    public int type(int law, int b) {
        Law text = lawOf(law);
        if (text == null || b < 0 || b > 255) {
            return BAD;
        }
        if (text.size >= LAW_BYTES) {
            return FULL;
        }
        text.append(b);
        return text.size;
    }

    public int wipe(int law) {
        Law text = lawOf(law);
        if (text == null) {
            return BAD;
        }
        int before = text.size;
        text.empty();
        return before;
    }

    public int fault(int law) {
        Law text = lawOf(law);
        return text == null ? BAD : text.firstFault;
    }

    public int law(int law, int which) {
        Law text = lawOf(law);
        if (text == null) {
            return BAD;
        }
        switch (which) {
            case 0: return text.enough;
            case 1: return text.contradiction;
            case 2: return text.elsewhere;
            case 3: return text.partial;
            default: return BAD;
        }
    }

    private Law lawOf(int law) {
        if (law == 0) {
            return firstLaw;
        }
        return law == 1 ? secondLaw : null;
    }

    // ---- heard in an order

    public int heard(int law, int what) {
        Law by = lawOf(law);
        if (by == null || what < 0 || what > 2) {
            return BAD;
        }
        hearing.byNumbers(by, words.heardOnes());
        return hearing.outcome(what);
    }

    public int ordered(int law, int s, int what) {
        Law by = lawOf(law);
        Sheet order = sheetOf(s);
        if (by == null || order == null || what < 0 || what > 2) {
            return BAD;
        }
        if (order.lost) {
            return find(NULL_FOUND);
        }
        if (!isOrder(order)) {
            return NOT;
        }
        hearing.begin();
        for (int i = 0; i < order.size; i++) {
            hearing.hearNext(by, order.items[i]);
        }
        return hearing.outcome(what);
    }

    public int head(int law, int witness) {
        Law by = lawOf(law);
        if (by == null || witness < 0 || witness >= WITNESSES) {
            return BAD;
        }
        hearing.byNumbers(by, words.heardOnes());
        return hearing.onHead(witness);
    }

    public int orders(int law, int word) {
        Law by = lawOf(law);
        if (by == null || word != NONE && !words.has(word)) {
            return BAD;
        }
        int set = words.heardOnes();
        if (Integer.bitCount(set) > MOST_IN_ORDERS) {
            return FULL;
        }
        if (word == NONE) {
            return factorial(Integer.bitCount(set));
        }
        if ((set >> word & 1) == 0) {
            return 0;
        }
        hearing.begin();
        return hearing.ordersWith(by, set, word, 0);
    }

    private boolean isOrder(Sheet order) {
        int left = words.heardOnes();
        for (int i = 0; i < order.size; i++) {
            int item = order.items[i];
            if (!words.has(item) || (left >> item & 1) == 0) {
                return false;
            }
            left &= ~(1 << item);
        }
        return true;
    }

    private static int factorial(int n) {
        int product = 1;
        for (int i = 2; i <= n; i++) {
            product *= i;
        }
        return product;
    }

    // ---- heard at once

    public int strikes(int law, int word, int other) {
        Law by = lawOf(law);
        if (by == null || !words.has(word) || !words.has(other)) {
            return BAD;
        }
        atOnce.takeUp(by, words.heardOnes());
        return atOnce.struckBy(1 << word) >> other & 1;
    }

    public int sound(int law, int words) {
        Law by = lawOf(law);
        if (by == null || (words & ~this.words.all()) != 0) {
            return BAD;
        }
        atOnce.takeUp(by, this.words.heardOnes());
        return atOnce.answersForItself(words) ? 1 : 0;
    }

    public int least(int law) {
        Law by = lawOf(law);
        if (by == null) {
            return BAD;
        }
        atOnce.takeUp(by, words.heardOnes());
        return atOnce.leastSet();
    }

    public int full(int law, int i) {
        Law by = lawOf(law);
        if (by == null || i < NONE) {
            return BAD;
        }
        atOnce.takeUp(by, words.heardOnes());
        atOnce.markFullSets();
        return i == NONE ? atOnce.fullSets() : atOnce.fullSet(i);
    }

    public int firm(int law, int word) {
        Law by = lawOf(law);
        if (by == null || !words.has(word)) {
            return BAD;
        }
        atOnce.takeUp(by, words.heardOnes());
        atOnce.markFullSets();
        return atOnce.firmness(word);
    }

    // ---- rings, chains, what is wanted

    public int ring() {
        atOnce.takeUp(firstLaw, words.heardOnes());
        return atOnce.onRings();
    }

    public int chain(int word) {
        return words.has(word) ? words.longestChain(word) : BAD;
    }

    public int hangs(int word) {
        if (!words.has(word) || (words.kept >> word & 1) != 0) {
            return BAD;
        }
        return hearing.hangingOn(firstLaw, words.heardOnes(), word);
    }

    public int most() {
        int set = words.heardOnes();
        int best = NONE;
        int bestHanging = -1;
        for (int w = 0; w < words.size; w++) {
            if ((set >> w & 1) != 0) {
                int hanging = hearing.hangingOn(firstLaw, set, w);
                if (hanging > bestHanging) {
                    best = w;
                    bestHanging = hanging;
                }
            }
        }
        return best;
    }

    public int brings(int word, int up) {
        if (!words.has(word) || words.kind[word] != CHARGE || (words.kept >> word & 1) != 0) {
            return BAD;
        }
        if (up != 0 && up != 1) {
            return BAD;
        }
        int best = NONE;
        for (int more = 0; more <= words.kept; more++) {
            if ((more & ~words.kept) == 0 && isFewer(more, best)) {
                atOnce.takeUp(firstLaw, words.heardOnes() | more);
                if ((atOnce.leastSet() >> word & 1) == up) {
                    best = more;
                }
            }
        }
        return best;
    }

    public int part() {
        if (firstLaw.saysTheSameAs(secondLaw)) {
            return NONE;
        }
        int set = words.heardOnes();
        int best = NONE;
        for (int some = 1; some <= set; some++) {
            if ((some & ~set) == 0 && isFewer(some, best) && isHeardUnlike(some)) {
                best = some;
            }
        }
        return best;
    }

    /** Sets are tried from the least bits up, so that only a set of fewer takes the place of one found. */
    private static boolean isFewer(int set, int best) {
        return best == NONE || Integer.bitCount(set) < Integer.bitCount(best);
    }

    private boolean isHeardUnlike(int set) {
        hearing.byNumbers(firstLaw, set);
        int byFirst = hearing.stand;
        hearing.byNumbers(secondLaw, set);
        return byFirst != hearing.stand;
    }

    // ---- sheets

    public int sheet(int s, int form, int n) {
        Sheet row = sheetOf(s);
        if (row == null || !isForm(form) || n > MOST_ITEMS) {
            return BAD;
        }
        if (n < 0) {
            return find(SIZE_FOUND);
        }
        row.renew(form, n);
        return n;
    }

    public int lose(int s) {
        Sheet row = sheetOf(s);
        if (row == null) {
            return BAD;
        }
        if (row.lost) {
            return find(NULL_FOUND);
        }
        row.lost = true;
        return row.size;
    }

    public int put(int s, int form, int i, int v) {
        Sheet row = sheetOf(s);
        if (row == null || !isForm(form)) {
            return BAD;
        }
        int finding = row.findingOf(form, i);
        if (finding != 0) {
            return find(finding);
        }
        row.set(i, v);
        return 1;
    }

    public int get(int s, int form, int i) {
        Sheet row = sheetOf(s);
        if (row == null || !isForm(form)) {
            return LEAST_INT;
        }
        int finding = row.findingOf(form, i);
        if (finding != 0) {
            find(finding);
            return LEAST_INT;
        }
        return row.items[i];
    }

    public int copy(int s, int i, int t, int j, int n) {
        Sheet from = sheetOf(s);
        Sheet to = sheetOf(t);
        if (from == null || to == null) {
            return BAD;
        }
        if (from.lost || to.lost) {
            return find(NULL_FOUND);
        }
        if (from.form != to.form) {
            return find(STORE_FOUND);
        }
        if (!from.holds(i, n) || !to.holds(j, n)) {
            return find(INDEX_FOUND);
        }
        System.arraycopy(from.items, i, to.items, j, n);
        return 1;
    }

    public int write(int s) {
        Sheet row = sheetOf(s);
        if (row == null) {
            return BAD;
        }
        if (row.lost) {
            return find(NULL_FOUND);
        }
        hearing.byNumbers(firstLaw, words.heardOnes());
        int number = Math.min(row.size, WITNESSES);
        for (int witness = 0; witness < number; witness++) {
            row.set(witness, hearing.onHead(witness));
        }
        return number;
    }

    public int count(int what) {
        switch (what) {
            case 0: return words.size;
            case 1: return words.kept;
            case 2: return firstLaw.size;
            case 3: return secondLaw.size;
            case 4: return roads.number();
            case 5: return words.possible;
            case 8: return latestFinding;
            default: return BAD;
        }
    }

    public long digest() {
        long h = 17;
        for (int what = 0; what <= 5; what++) {
            h = 31 * h + count(what);
        }
        for (int w = 0; w < words.size; w++) {
            for (int what = 0; what <= 6; what++) {
                h = 31 * h + is(w, what);
            }
        }
        h = digestOfLaw(h, 0);
        h = digestOfLaw(h, 1);
        h = 31 * h + ring();
        return 31 * h + most();
    }

    private long digestOfLaw(long before, int law) {
        long h = 31 * before + fault(law);
        for (int which = 0; which <= 3; which++) {
            h = 31 * h + law(law, which);
        }
        for (int what = 0; what <= 2; what++) {
            h = 31 * h + heard(law, what);
        }
        h = 31 * h + least(law);
        return 31 * h + full(law, NONE);
    }

    private Sheet sheetOf(int s) {
        return s >= 0 && s < SHEETS ? sheets[s] : null;
    }

    private static boolean isForm(int form) {
        return form >= 0 && form < FORMS;
    }

    private int find(int finding) {
        latestFinding = finding;
        return -10 - finding;
    }

    /** Roads, and the quickest ways by them, which are sought anew only when a road changes. */
    private static final class Roads {
        private final int[] hours = new int[TOWNS * TOWNS];
        private final int[] quickest = new int[TOWNS * TOWNS];

        Roads() {
            seekQuickest();
        }

        int build(int a, int b, int took) {
            int before = hours[a * TOWNS + b];
            hours[a * TOWNS + b] = took;
            hours[b * TOWNS + a] = took;
            seekQuickest();
            return before;
        }

        int between(int a, int b) {
            return quickest[a * TOWNS + b];
        }

        int number() {
            int roads = 0;
            for (int a = 0; a < TOWNS; a++) {
                for (int b = 0; b < a; b++) {
                    if (hours[a * TOWNS + b] != 0) {
                        roads++;
                    }
                }
            }
            return roads;
        }

        private void seekQuickest() {
            for (int a = 0; a < TOWNS; a++) {
                for (int b = 0; b < TOWNS; b++) {
                    int direct = hours[a * TOWNS + b];
                    quickest[a * TOWNS + b] = a == b ? 0 : direct == 0 ? NO_WAY : direct;
                }
            }
            for (int through = 0; through < TOWNS; through++) {
                shortenThrough(through);
            }
        }

        /** No real way takes NO_WAY hours or more, so a sum with NO_WAY in it never shortens anything. */
        private void shortenThrough(int through) {
            for (int a = 0; a < TOWNS; a++) {
                for (int b = 0; b < TOWNS; b++) {
                    int round = quickest[a * TOWNS + through] + quickest[through * TOWNS + b];
                    if (round < quickest[a * TOWNS + b]) {
                        quickest[a * TOWNS + b] = round;
                    }
                }
            }
        }
    }

    /** Words as told, and whom each meets, as bits, since every hearing asks for that again and again. */
    private static final class Words {
        private final int[] kind = new int[MOST_WORDS];
        private final int[] group = new int[MOST_WORDS];
        private final int[] groupSize = new int[MOST_WORDS];
        private final int[] town = new int[MOST_WORDS];
        private final int[] hour = new int[MOST_WORDS];
        private final int[] about = new int[MOST_WORDS];
        /** Words that a word is against, and those that are against it. */
        private final int[] foes = new int[MOST_WORDS];
        /** The word that a possible elsewhere is about. */
        private final int[] undoes = new int[MOST_WORDS];
        /** Possible elsewheres that are about a word. */
        private final int[] undoers = new int[MOST_WORDS];
        private final int[] chains = new int[MOST_WORDS];
        private int size = 0;
        private int kept = 0;
        private int possible = 0;

        boolean has(int word) {
            return word >= 0 && word < size;
        }

        int all() {
            return (1 << size) - 1;
        }

        int heardOnes() {
            return all() & ~kept;
        }

        int tell(int ofKind, int byGroup, int inTown, int atHour, int aboutWhat, Roads roads) {
            int word = size;
            kind[word] = ofKind;
            group[word] = byGroup;
            groupSize[word] = Integer.bitCount(byGroup);
            town[word] = inTown;
            hour[word] = atHour;
            about[word] = aboutWhat;
            size++;
            if (ofKind == AGAINST) {
                foes[word] |= 1 << aboutWhat;
                foes[aboutWhat] |= 1 << word;
            }
            weighAll(roads);
            return word;
        }

        void weighAll(Roads roads) {
            possible = 0;
            Arrays.fill(undoes, 0);
            Arrays.fill(undoers, 0);
            for (int w = 0; w < size; w++) {
                if (kind[w] == ELSEWHERE && isTooFar(w, about[w], roads)) {
                    possible |= 1 << w;
                    undoes[w] = 1 << about[w];
                    undoers[about[w]] |= 1 << w;
                }
            }
        }

        private boolean isTooFar(int one, int other, Roads roads) {
            return roads.between(town[one], town[other]) > Math.abs(hour[one] - hour[other]);
        }

        /** A word is told behind the one it is about: from the last one down, each chain is whole when it is lengthened. */
        int longestChain(int word) {
            int heard = heardOnes();
            Arrays.fill(chains, 0);
            for (int w = size - 1; w > word; w--) {
                if ((possible & heard & 1 << w) != 0) {
                    chains[about[w]] = Math.max(chains[about[w]], chains[w] + 1);
                }
            }
            return chains[word];
        }
    }

    /** A law's text, and what it says, read anew only when a byte comes or goes. */
    private static final class Law {
        private static final String LETTERS = "gcep";
        private static final String LOWEST = "1000";
        private static final String HIGHEST = "4211";

        private final int[] text = new int[LAW_BYTES];
        private int size = 0;
        private int firstFault = NONE;
        private int enough = 2;
        private int contradiction = 0;
        private int elsewhere = 0;
        private int partial = 0;

        void append(int b) {
            text[size] = b;
            size++;
            understand();
        }

        void empty() {
            size = 0;
            understand();
        }

        boolean saysTheSameAs(Law other) {
            return enough == other.enough && contradiction == other.contradiction
                && elsewhere == other.elsewhere && partial == other.partial;
        }

        private void understand() {
            firstFault = seekFault();
            enough = 2;
            contradiction = 0;
            elsewhere = 0;
            partial = 0;
            if (firstFault == NONE) {
                for (int at = 0; at + 2 < size; at += PART_BYTES) {
                    takePart(text[at], text[at + 2] - '0');
                }
            }
        }

        private void takePart(int letter, int figure) {
            switch (letter) {
                case 'g': enough = figure; break;
                case 'c': contradiction = figure; break;
                case 'e': elsewhere = figure; break;
                default: partial = figure; break;
            }
        }

        private int seekFault() {
            for (int at = 0; at < size; at++) {
                if (!fits(at)) {
                    return at;
                }
            }
            return size == 0 || size % PART_BYTES == PART_BYTES - 1 ? NONE : size;
        }

        /** Every part is of three bytes and a ; so that the place alone tells what may stand there. */
        private boolean fits(int at) {
            switch (at % PART_BYTES) {
                case 0: return LETTERS.indexOf((char) text[at]) >= 0;
                case 1: return text[at] == '=';
                case 2: return isFigureOf(LETTERS.indexOf((char) text[at - 2]), text[at]);
                default: return text[at] == ';';
            }
        }

        private static boolean isFigureOf(int letter, int b) {
            if (letter < 0 || letter >= LETTERS.length()) {
                return false;
            }
            return b >= LOWEST.charAt(letter) && b <= HIGHEST.charAt(letter);
        }
    }

    /** Words heard one behind the other. */
    private static final class Hearing {
        private final Words words;
        private int stand = 0;
        private int undone = 0;
        private int out = 0;

        Hearing(Words words) {
            this.words = words;
        }

        void begin() {
            stand = 0;
            undone = 0;
            out = 0;
        }

        void byNumbers(Law law, int set) {
            begin();
            for (int w = 0; w < words.size; w++) {
                if ((set >> w & 1) != 0) {
                    hearNext(law, w);
                }
            }
        }

        int outcome(int what) {
            if (what == 0) {
                return stand;
            }
            return what == 1 ? undone : out;
        }

        int onHead(int witness) {
            int sum = 0;
            for (int w = 0; w < words.size; w++) {
                if (words.kind[w] == CHARGE && (undone >> w & 1) != 0 && (words.group[w] >> witness & 1) != 0) {
                    sum += words.about[w];
                }
            }
            return sum;
        }

        int hangingOn(Law law, int set, int word) {
            byNumbers(law, set);
            int with = stand;
            byNumbers(law, set & ~(1 << word));
            return Integer.bitCount((with ^ stand) & ~(1 << word));
        }

        /** In how many orders of the set, behind what was heard, the word stands; it never stands again once it is gone. */
        private int ordersWith(Law law, int set, int word, int depth) {
            if (set == 0) {
                return 1;
            }
            if (depth >= MOST_IN_ORDERS) {
                return 0;
            }
            int standBefore = stand;
            int undoneBefore = undone;
            int outBefore = out;
            int sum = 0;
            for (int w = 0; w < words.size; w++) {
                if ((set >> w & 1) != 0) {
                    hearNext(law, w);
                    int left = set & ~(1 << w);
                    if (((stand | left) >> word & 1) != 0) {
                        sum += ordersWith(law, left, word, depth + 1);
                    }
                    stand = standBefore;
                    undone = undoneBefore;
                    out = outBefore;
                }
            }
            return sum;
        }

        void hearNext(Law law, int word) {
            if (isAble(law, word)) {
                stand |= 1 << word;
                quarrel(law, word);
                beElsewhere(law, word);
            }
        }

        private boolean isAble(Law law, int word) {
            int group = words.group[word];
            if (law.partial == 0 && (group & out) != 0) {
                return false;
            }
            return Integer.bitCount(group & ~out) >= law.enough;
        }

        private void quarrel(Law law, int word) {
            int foes = words.foes[word] & stand;
            for (int w = 0; w < words.size && foes >> w != 0 && (stand >> word & 1) != 0; w++) {
                if ((foes >> w & 1) != 0) {
                    stand &= ~fallen(law, w, word);
                }
            }
        }

        private int fallen(Law law, int earlier, int later) {
            if (law.contradiction == 1) {
                return 1 << later;
            }
            int both = 1 << earlier | 1 << later;
            if (law.contradiction == 0) {
                return both;
            }
            int more = words.groupSize[earlier] - words.groupSize[later];
            return more == 0 ? both : more > 0 ? 1 << later : 1 << earlier;
        }

        private void beElsewhere(Law law, int word) {
            if ((stand >> word & 1) == 0) {
                return;
            }
            if ((words.undoes[word] & stand) != 0) {
                undo(law, words.about[word]);
            } else if ((words.undoers[word] & stand) != 0) {
                undo(law, word);
            }
        }

        private void undo(Law law, int word) {
            stand &= ~(1 << word);
            undone |= 1 << word;
            if (law.elsewhere == 1) {
                out |= words.group[word];
            }
        }
    }

    /** Words heard all at once: who strikes whom among those that a law admits, and the sets that come of it. */
    private static final class AtOnce {
        private static final int SOUND = 1, HAS_GREATER = 2;

        private final Words words;
        private final int[] struck = new int[MOST_WORDS];
        private final int[] strikers = new int[MOST_WORDS];
        private final int[] reached = new int[MOST_WORDS];
        private final byte[] marks = new byte[1 << MOST_WORDS];
        private int admitted = 0;

        AtOnce(Words words) {
            this.words = words;
        }

        void takeUp(Law law, int set) {
            admitted = 0;
            Arrays.fill(struck, 0);
            Arrays.fill(strikers, 0);
            for (int w = 0; w < words.size; w++) {
                if ((set >> w & 1) != 0 && words.groupSize[w] >= law.enough) {
                    admitted |= 1 << w;
                    meetEarlier(law, w);
                }
            }
        }

        private void meetEarlier(Law law, int word) {
            int other = words.about[word];
            if (words.kind[word] == CHARGE || (admitted >> other & 1) == 0) {
                return;
            }
            if (words.kind[word] == AGAINST) {
                meetFoe(law.contradiction, word, other);
            } else if (words.undoes[word] != 0) {
                strike(word, other);
            }
        }

        private void meetFoe(int contradiction, int later, int lesser) {
            int more = words.groupSize[later] - words.groupSize[lesser];
            if (contradiction == 0 || contradiction == 2 && more >= 0) {
                strike(later, lesser);
            }
            if (contradiction != 2 || more <= 0) {
                strike(lesser, later);
            }
        }

        private void strike(int striker, int other) {
            struck[striker] |= 1 << other;
            strikers[other] |= 1 << striker;
        }

        int struckBy(int set) {
            return unionOver(struck, set);
        }

        private int unionOver(int[] rows, int set) {
            int union = 0;
            for (int w = 0; w < words.size; w++) {
                if ((set >> w & 1) != 0) {
                    union |= rows[w];
                }
            }
            return union;
        }

        boolean answersForItself(int set) {
            if ((set & ~admitted) != 0) {
                return false;
            }
            int hit = struckBy(set);
            return (hit & set) == 0 && (unionOver(strikers, set) & ~hit) == 0;
        }

        /** The set only grows, so it is at its end after as many rounds as there are words. */
        int leastSet() {
            int set = 0;
            for (int round = 0; round <= words.size; round++) {
                int next = unstruckBut(struckBy(set));
                if (next == set) {
                    return set;
                }
                set = next;
            }
            return set;
        }

        private int unstruckBut(int helpless) {
            int free = 0;
            for (int w = 0; w < words.size; w++) {
                if ((admitted >> w & 1) != 0 && (strikers[w] & ~helpless) == 0) {
                    free |= 1 << w;
                }
            }
            return free;
        }

        /** From the greatest set down, so that what holds of greater ones is known when a set is marked. */
        void markFullSets() {
            for (int set = admitted; set >= 0; set--) {
                if ((set & ~admitted) == 0) {
                    int mark = answersForItself(set) ? SOUND : 0;
                    marks[set] = (byte) (hasGreater(set) ? mark | HAS_GREATER : mark);
                }
            }
        }

        private boolean hasGreater(int set) {
            for (int w = 0; w < words.size; w++) {
                int greater = set | 1 << w;
                if ((admitted & ~set & 1 << w) != 0 && marks[greater] != 0) {
                    return true;
                }
            }
            return false;
        }

        private boolean isFullSet(int set) {
            return (set & ~admitted) == 0 && marks[set] == SOUND;
        }

        int fullSets() {
            int number = 0;
            for (int set = 0; set <= admitted; set++) {
                if (isFullSet(set)) {
                    number++;
                }
            }
            return number;
        }

        int fullSet(int i) {
            int left = i;
            for (int set = 0; set <= admitted; set++) {
                if (isFullSet(set)) {
                    if (left == 0) {
                        return set;
                    }
                    left--;
                }
            }
            return NONE;
        }

        int firmness(int word) {
            boolean inAll = true;
            boolean inSome = false;
            for (int set = 0; set <= admitted; set++) {
                if (isFullSet(set)) {
                    boolean in = (set >> word & 1) != 0;
                    inAll &= in;
                    inSome |= in;
                }
            }
            return inSome ? inAll ? 2 : 1 : 0;
        }

        int onRings() {
            System.arraycopy(struck, 0, reached, 0, MOST_WORDS);
            for (int through = 0; through < words.size; through++) {
                for (int w = 0; w < words.size; w++) {
                    if ((reached[w] >> through & 1) != 0) {
                        reached[w] |= reached[through];
                    }
                }
            }
            int ring = 0;
            for (int w = 0; w < words.size; w++) {
                ring |= reached[w] & 1 << w;
            }
            return ring;
        }
    }

    /** A row of items; every form is held in ints, cut to the form's bits, so that no row is ever made anew. */
    private static final class Sheet {
        private final int[] items = new int[MOST_ITEMS];
        private boolean lost = true;
        private int form = 0;
        private int size = 0;

        void renew(int ofForm, int n) {
            Arrays.fill(items, 0);
            lost = false;
            form = ofForm;
            size = n;
        }

        void set(int i, int v) {
            items[i] = form == 0 ? (byte) v : form == 1 ? (short) v : v;
        }

        /** What is found when item i is asked for as one of a form; 0: nothing. */
        int findingOf(int asForm, int i) {
            if (lost) {
                return NULL_FOUND;
            }
            if (asForm != form) {
                return CAST_FOUND;
            }
            return i < 0 || i >= size ? INDEX_FOUND : 0;
        }

        boolean holds(int from, int n) {
            return from >= 0 && n >= 0 && from <= size - n;
        }
    }
}
