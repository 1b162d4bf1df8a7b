import java.util.Arrays;

/**
 * Ground by hearsay: a miller who grinds as fine as he is told the customer is,
 * by those who wait behind him. ../shared/DOC.md says what every call promises;
 * the words in capitals are its own.
 */
public final class GroundByHearsay {
    public static final int BAD = -1, NO = -2, FULL = -3, NONE = -4;

    private static final int PLAIN = 0, WIDOW = 1, CHILD = 2, DEAF = 3, WIT = 4;
    private static final int BRAN = 0, BROWN = 1, WHITE = 2, WAFERS = 3;

    private static final int MOST_LETTERS = 200;
    private static final int MOST_CUSTOMERS = 6;
    private static final int MOST_ORDERS = 720;
    private static final int MOST_HEARD = 3;
    private static final int MOST_WORD = 6;
    private static final int MOST_FINE = 9;
    private static final int MOST_SEEN = 6;
    private static final int MOST_UNDONE = 8;
    private static final int MOST_KEPT = 2;
    private static final int MOST_DAYS = 60;
    private static final int MOST_SEED = 9999;
    private static final int MOST_COUNTS = 8;

    /** Words are held as V: what is said, and 3. */
    private static final int SAID_ZERO = 3;
    private static final int FIRST_STONE = 4;
    private static final int AS_IT_IS = 256;
    private static final int NOBODY = -1;

    private static final String FIRST_TEXT =
            "c0;c1;c2;c0;c3;c4;o0,1,5;o1,0,6;o2,0,1;o3,0,5;o5,3,0;o1,3,4;o2,3,4;o5,2,6;o3,2,1;o0,5,2;o1,5,6;s4;";

    private final Script script = new Script();
    private final Mill mill = new Mill();
    /** What is not so, but asked about, is tried out on this one. */
    private final Mill trial = new Mill();
    private final Round round = new Round();
    private final int[] finestRow = new int[MOST_CUSTOMERS];
    private final Sightings sightings = new Sightings();
    private final Shelf past = new Shelf(MOST_UNDONE);
    private final Shelf kept = new Shelf(MOST_KEPT);

    public GroundByHearsay() {
        for (int i = 0; i < FIRST_TEXT.length(); i++) {
            script.add(FIRST_TEXT.charAt(i));
        }
        script.readInto(mill);
        script.clear();
    }

    // ---- mills

    public int write(int letter) {
        if (letter < 32 || letter > 126) {
            return BAD;
        }
        if (script.isFull()) {
            return FULL;
        }
        script.add(letter);
        return script.size();
    }

    public int wipe() {
        int length = script.size();
        script.clear();
        return length;
    }

    public int fault() {
        return script.readInto(trial);
    }

    public int lay() {
        if (script.readInto(trial) != NONE || trial.size() == 0) {
            return NO;
        }
        mill.copy(trial);
        sightings.clear();
        past.clear();
        kept.clear();
        return mill.size();
    }

    public int customer(int c, int what) {
        if (!mill.has(c) || isOutside(what, 2)) {
            return BAD;
        }
        if (what == 0) {
            return mill.kindOf(c);
        }
        if (what == 1) {
            return mill.placeOf(c);
        }
        return mill.isGone(c) ? 1 : 0;
    }

    public int says(int i, int j) {
        return areTwo(i, j) ? mill.wordOf(i, j) : BAD;
    }

    public int fine(int c, int what) {
        if (!mill.has(c) || isOutside(what, 1)) {
            return BAD;
        }
        if (mill.isGone(c)) {
            return NO;
        }
        round.pass(mill);
        int fine = round.fineOf(c);
        return what == 0 ? fine : breadOf(fine);
    }

    // ---- changes

    public int change(int a, int b) {
        if (!areTwo(a, b)) {
            return BAD;
        }
        past.put(mill);
        mill.swap(a, b);
        return mill.placeOf(a);
    }

    public int away(int c) {
        if (!mill.has(c)) {
            return BAD;
        }
        past.put(mill);
        mill.setGone(mill.goneBits() ^ 1 << c);
        return mill.isGone(c) ? 1 : 0;
    }

    public int say(int i, int j, int v) {
        if (!areTwo(i, j) || isOutside(v, MOST_WORD)) {
            return BAD;
        }
        past.put(mill);
        int before = mill.wordOf(i, j);
        mill.setWord(i, j, v);
        return before;
    }

    public int day() {
        past.put(mill);
        round.pass(mill);
        mill.endDay(round.stoneThen());
        return mill.daysGone();
    }

    public int undo() {
        return past.take(mill) ? past.size() : NO;
    }

    // ---- what comes

    public int behind(int n, int c) {
        if (isOutside(n, MOST_DAYS) || c != NOBODY && !mill.has(c)) {
            return BAD;
        }
        int stone = mill.stoneNow();
        round.lineUp(mill);
        for (int d = 0; d < n; d++) {
            round.grind(mill, stone, BRAN);
            stone = round.stoneThen();
        }
        return c == NOBODY ? stone : round.fineOf(c);
    }

    public int order(int c, int k) {
        if (!mill.has(c) || isOutside(k, MOST_CUSTOMERS)) {
            return BAD;
        }
        if (mill.isGone(c)) {
            return NO;
        }
        int finest = findFinestRow(c);
        if (finest == NONE || k == 0) {
            return finest;
        }
        return k <= round.size() ? finestRow[k - 1] : NONE;
    }

    /** How FINE it is by the ORDER for c, which is put into finestRow; NONE without. */
    private int findFinestRow(int c) {
        int finest = NONE;
        boolean more = true;
        round.lineUpByNumber(mill);
        for (int tried = 0; tried < MOST_ORDERS && more && finest < MOST_FINE; tried++) {
            if (round.grind(mill, mill.stoneNow(), BROWN) && round.fineOf(c) > finest) {
                finest = round.fineOf(c);
                round.copyRow(finestRow);
            }
            more = round.nextOrder();
        }
        return finest;
    }

    public int helpless() {
        int bits = mill.presentBits();
        boolean more = true;
        round.lineUpByNumber(mill);
        for (int tried = 0; tried < MOST_ORDERS && more && bits != 0; tried++) {
            round.grind(mill, mill.stoneNow(), BRAN);
            bits &= round.branBits();
            more = round.nextOrder();
        }
        return bits;
    }

    public int words(int c, int b) {
        if (!mill.has(c) || isOutside(b, WAFERS)) {
            return BAD;
        }
        if (mill.isGone(c)) {
            return NO;
        }
        int best = NONE;
        for (int set = 0; set < 1 << mill.size(); set++) {
            boolean fewer = best == NONE || Integer.bitCount(set) < Integer.bitCount(best);
            if (fewer && !isIn(set, c) && breadPraisedBy(set, c) >= b) {
                best = set;
            }
        }
        return best;
    }

    private int breadPraisedBy(int set, int c) {
        trial.copy(mill);
        for (int i = 0; i < trial.size(); i++) {
            if (isIn(set, i)) {
                trial.setWord(i, c, MOST_WORD);
            }
        }
        round.pass(trial);
        return breadOf(round.fineOf(c));
    }

    // ---- what was seen

    public int see(int c, int v) {
        if (!mill.has(c) || isOutside(v, MOST_FINE)) {
            return BAD;
        }
        if (mill.isGone(c)) {
            return NO;
        }
        if (sightings.isFull()) {
            return FULL;
        }
        sightings.add(c, v);
        return sightings.size();
    }

    public int forget() {
        int seen = sightings.size();
        sightings.clear();
        return seen;
    }

    public int stood(int what) {
        if (isOutside(what, 1)) {
            return BAD;
        }
        int present = Integer.bitCount(mill.presentBits());
        int found = 0;
        int first = NONE;
        for (int c = 0; c < mill.size(); c++) {
            for (int ahead = 0; ahead <= present; ahead++) {
                if (mill.isGone(c) && couldHaveStood(c, ahead)) {
                    found++;
                    first = first == NONE ? 10 * c + ahead : first;
                }
            }
        }
        if (what == 1) {
            return first;
        }
        round.pass(mill);
        return sightings.areSo(round) ? found + AS_IT_IS : found;
    }

    private boolean couldHaveStood(int c, int ahead) {
        round.lineUp(mill);
        round.squeezeIn(c, ahead);
        round.grind(mill, mill.stoneNow(), BRAN);
        return sightings.areSo(round);
    }

    public int said(int i, int j) {
        if (!areTwo(i, j)) {
            return BAD;
        }
        int bits = 0;
        trial.copy(mill);
        for (int v = 0; v <= MOST_WORD; v++) {
            trial.setWord(i, j, v);
            round.pass(trial);
            if (sightings.areSo(round)) {
                bits |= 1 << v;
            }
        }
        return bits;
    }

    public int mouths(int c) {
        if (!mill.has(c)) {
            return BAD;
        }
        if (mill.isGone(c)) {
            return NO;
        }
        round.lineUp(mill);
        return round.mouthBits(mill, round.placeIn(c));
    }

    // ---- chance, years

    public int chance(int c, int b, int x, int part) {
        if (!mill.has(c) || isOutside(b, WAFERS) || isOutside(x, 10) || isOutside(part, 1)) {
            return BAD;
        }
        if (mill.isGone(c)) {
            return NO;
        }
        int others = mill.presentBits() & ~(1 << c);
        int above = 0;
        trial.copy(mill);
        for (int stay = 0; stay < 1 << mill.size(); stay++) {
            if ((stay & ~others) == 0) {
                trial.setGone(mill.goneBits() | stay);
                round.pass(trial);
                int staying = Integer.bitCount(stay);
                int coming = Integer.bitCount(others) - staying;
                above += breadOf(round.fineOf(c)) >= b ? power(x, staying) * power(10 - x, coming) : 0;
            }
        }
        int below = power(10, Integer.bitCount(others));
        int common = commonDivisor(above, below);
        if (common < 1) {
            return NONE;
        }
        return part == 0 ? above / common : below / common;
    }

    private static int power(int base, int times) {
        int product = 1;
        for (int i = 0; i < times; i++) {
            product *= base;
        }
        return product;
    }

    /** The greatest common divisor; 32 steps are more than ints up to 100000 need. */
    private static int commonDivisor(int a, int b) {
        int larger = a;
        int smaller = b;
        for (int step = 0; step < 32 && smaller != 0; step++) {
            int rest = larger % smaller;
            larger = smaller;
            smaller = rest;
        }
        return larger;
    }

    public int year(int z, int n, int what) {
        if (isOutside(z, MOST_SEED) || n < 1 || isOutside(n, MOST_DAYS) || isOutside(what, 1)) {
            return BAD;
        }
        int bran = 0;
        trial.copy(mill);
        for (int k = 0; k < n; k++) {
            swapDrawn(drawOf(z, k));
            round.pass(trial);
            trial.endDay(round.stoneThen());
            bran += Integer.bitCount(round.branBits());
        }
        return what == 0 ? trial.stoneNow() : bran;
    }

    private static int drawOf(int z, int k) {
        long x = 7919L * z + 6151L * k + 1;
        return (int) (x * x % 65521 / 8);
    }

    private void swapDrawn(int draw) {
        int many = trial.size();
        if (many < 1) {
            return;
        }
        int a = draw % many;
        int b = draw / 8 % many;
        if (a != b) {
            trial.swap(a, b);
        }
    }

    public int keep() {
        if (kept.isFull()) {
            return FULL;
        }
        kept.put(mill);
        return kept.size();
    }

    public int back() {
        if (!kept.take(mill)) {
            return NO;
        }
        past.clear();
        return kept.size();
    }

    public int count(int what) {
        if (isOutside(what, MOST_COUNTS)) {
            return BAD;
        }
        switch (what) {
            case 0: return mill.size();
            case 1: return Integer.bitCount(mill.goneBits());
            case 2: return mill.stoneNow();
            case 3: return mill.daysGone();
            case 4: return branToday();
            case 5: return sightings.size();
            case 6: return past.size();
            case 7: return kept.size();
            default: return script.size();
        }
    }

    private int branToday() {
        round.pass(mill);
        return Integer.bitCount(round.branBits());
    }

    private boolean areTwo(int i, int j) {
        return mill.has(i) && mill.has(j) && i != j;
    }

    private static boolean isOutside(int number, int most) {
        return number < 0 || number > most;
    }

    private static boolean isIn(int bits, int c) {
        return (bits >> c & 1) == 1;
    }

    private static int breadOf(int fine) {
        if (fine < 2) {
            return BRAN;
        }
        if (fine < 5) {
            return BROWN;
        }
        return fine < 8 ? WHITE : WAFERS;
    }

    /** THE TEXT, and how it is read. */
    private static final class Script {
        private final char[] letters = new char[MOST_LETTERS];
        private final int[] numbers = new int[3];
        private int length;
        private int at;

        int size() {
            return length;
        }

        boolean isFull() {
            return length >= letters.length;
        }

        void clear() {
            length = 0;
        }

        void add(int letter) {
            if (length >= 0 && length < letters.length) {
                letters[length] = (char) letter;
                length++;
            }
        }

        /** FAULT, or NONE: then all that is told stands in the mill. */
        int readInto(Mill mill) {
            mill.clear();
            at = 0;
            for (int items = 0; items < MOST_LETTERS && at < length; items++) {
                int start = at;
                if (!readItem(mill)) {
                    return start;
                }
            }
            return NONE;
        }

        private boolean readItem(Mill mill) {
            int kind = letterAt(at);
            at++;
            if (!readNumbers(kind == 'o' ? 3 : 1)) {
                return false;
            }
            switch (kind) {
                case 'c': return mill.addCustomer(numbers[0]);
                case 'o': return mill.tellWord(numbers[0], numbers[1], numbers[2]);
                case 's': return mill.tellStone(numbers[0]);
                case 'a': return mill.tellGone(numbers[0]);
                default: return false;
            }
        }

        private boolean readNumbers(int many) {
            for (int i = 0; i < many && i < numbers.length; i++) {
                numbers[i] = readNumber();
                int end = i == many - 1 ? ';' : ',';
                if (numbers[i] < 0 || letterAt(at) != end) {
                    return false;
                }
                at++;
            }
            return true;
        }

        /** A number of one or two figures; less than 0 without. */
        private int readNumber() {
            int number = figureAt(at);
            if (number < 0) {
                return number;
            }
            at++;
            int second = figureAt(at);
            if (second < 0) {
                return number;
            }
            at++;
            return 10 * number + second;
        }

        private int figureAt(int place) {
            int letter = letterAt(place);
            return letter >= '0' && letter <= '9' ? letter - '0' : -1;
        }

        private int letterAt(int place) {
            return place >= 0 && place < length && place < letters.length ? letters[place] : 0;
        }
    }

    /** All that KEPT keeps and UNDONE brings back: customers, their words and places, the STONE, DAYS. */
    private static final class Mill {
        private final int[] kinds = new int[MOST_CUSTOMERS];
        private final int[] line = new int[MOST_CUSTOMERS];
        private final int[] told = new int[MOST_CUSTOMERS * MOST_CUSTOMERS];
        private int customers;
        private int gone;
        private int stone;
        private int days;

        void clear() {
            customers = 0;
            gone = 0;
            stone = FIRST_STONE;
            days = 0;
            Arrays.fill(told, SAID_ZERO);
        }

        void copy(Mill other) {
            System.arraycopy(other.kinds, 0, kinds, 0, MOST_CUSTOMERS);
            System.arraycopy(other.line, 0, line, 0, MOST_CUSTOMERS);
            System.arraycopy(other.told, 0, told, 0, MOST_CUSTOMERS * MOST_CUSTOMERS);
            customers = other.customers;
            gone = other.gone;
            stone = other.stone;
            days = other.days;
        }

        boolean addCustomer(int kind) {
            if (customers < 0 || customers >= MOST_CUSTOMERS || kind < PLAIN || kind > WIT) {
                return false;
            }
            kinds[customers] = kind;
            line[customers] = customers;
            customers++;
            return true;
        }

        boolean tellWord(int i, int j, int v) {
            if (!has(i) || !has(j) || i == j || isOutside(v, MOST_WORD)) {
                return false;
            }
            setWord(i, j, v);
            return true;
        }

        boolean tellStone(int fine) {
            if (isOutside(fine, MOST_FINE)) {
                return false;
            }
            stone = fine;
            return true;
        }

        boolean tellGone(int c) {
            if (!has(c)) {
                return false;
            }
            gone |= 1 << c;
            return true;
        }

        int size() {
            return customers;
        }

        boolean has(int c) {
            return c >= 0 && c < customers;
        }

        int kindOf(int c) {
            return c >= 0 && c < kinds.length ? kinds[c] : PLAIN;
        }

        boolean isGone(int c) {
            return isIn(gone, c);
        }

        int goneBits() {
            return gone;
        }

        int presentBits() {
            return (1 << customers) - 1 & ~gone;
        }

        void setGone(int bits) {
            gone = bits;
        }

        int wordOf(int i, int j) {
            int at = i * MOST_CUSTOMERS + j;
            return at >= 0 && at < told.length ? told[at] : SAID_ZERO;
        }

        void setWord(int i, int j, int v) {
            int at = i * MOST_CUSTOMERS + j;
            if (at >= 0 && at < told.length) {
                told[at] = v;
            }
        }

        /** What a word is worth where it counts. */
        int worthOf(int i, int j) {
            int word = wordOf(i, j) - SAID_ZERO;
            switch (kindOf(i)) {
                case WIDOW: return 2 * word;
                case WIT: return -word;
                default: return word;
            }
        }

        int whoAt(int place) {
            return place >= 0 && place < customers && place < line.length ? line[place] : NOBODY;
        }

        int placeOf(int c) {
            for (int p = 0; p < customers; p++) {
                if (whoAt(p) == c) {
                    return p;
                }
            }
            return NOBODY;
        }

        void swap(int a, int b) {
            int placeOfA = placeOf(a);
            int placeOfB = placeOf(b);
            if (placeOfA >= 0 && placeOfA < line.length && placeOfB >= 0 && placeOfB < line.length) {
                line[placeOfA] = b;
                line[placeOfB] = a;
            }
        }

        int stoneNow() {
            return stone;
        }

        int daysGone() {
            return days;
        }

        void endDay(int stoneThen) {
            stone = stoneThen;
            days++;
        }
    }

    /** Mills as they stood, the latest one on top; the oldest one makes room. */
    private static final class Shelf {
        private final Mill[] mills;
        private int size;

        Shelf(int most) {
            mills = new Mill[Math.max(most, 1)];
            for (int i = 0; i < mills.length; i++) {
                mills[i] = new Mill();
            }
        }

        int size() {
            return size;
        }

        boolean isFull() {
            return size >= mills.length;
        }

        void clear() {
            size = 0;
        }

        void put(Mill mill) {
            if (isFull()) {
                dropOldest();
            }
            Mill top = millAt(size);
            if (top != null) {
                top.copy(mill);
                size++;
            }
        }

        /** The latest one goes into the mill; false without. */
        boolean take(Mill mill) {
            Mill top = millAt(size - 1);
            if (top == null) {
                return false;
            }
            mill.copy(top);
            size--;
            return true;
        }

        private Mill millAt(int i) {
            return i >= 0 && i < mills.length ? mills[i] : null;
        }

        private void dropOldest() {
            Mill oldest = millAt(0);
            for (int i = 1; i < mills.length; i++) {
                mills[i - 1] = mills[i];
            }
            size = mills.length - 1;
            if (size >= 0) {
                mills[size] = oldest;
            }
        }
    }

    /** One day's line: who stand in it, and how FINE each has it. */
    private static final class Round {
        private final int[] row = new int[MOST_CUSTOMERS];
        private final int[] fines = new int[MOST_CUSTOMERS];
        private int size;
        private int guest;
        private int stone;

        /** A DAY as the mill stands. */
        void pass(Mill mill) {
            lineUp(mill);
            grind(mill, mill.stoneNow(), BRAN);
        }

        void lineUp(Mill mill) {
            empty();
            for (int p = 0; p < mill.size(); p++) {
                join(mill, mill.whoAt(p));
            }
        }

        /** The first of all orders. */
        void lineUpByNumber(Mill mill) {
            empty();
            for (int c = 0; c < mill.size(); c++) {
                join(mill, c);
            }
        }

        private void empty() {
            size = 0;
            guest = NOBODY;
            Arrays.fill(fines, NONE);
        }

        private void join(Mill mill, int c) {
            if (!mill.isGone(c) && size >= 0 && size < row.length) {
                row[size] = c;
                size++;
            }
        }

        /** One without corn stands behind so many. */
        void squeezeIn(int c, int ahead) {
            if (ahead < 0 || ahead > size || size >= row.length) {
                return;
            }
            for (int p = size; p > ahead; p--) {
                row[p] = row[p - 1];
            }
            row[ahead] = c;
            size++;
            guest = c;
        }

        /** False, and no more is ground, as soon as one has less than the least BREAD. */
        boolean grind(Mill mill, int stoneAtFirst, int least) {
            stone = stoneAtFirst;
            for (int p = 0; p < size; p++) {
                int c = whoIn(p);
                if (c != guest) {
                    int fine = Math.max(0, Math.min(MOST_FINE, stone + hearsay(mill, p)));
                    hand(c, fine);
                    wear(fine);
                    if (breadOf(fine) < least) {
                        return false;
                    }
                }
            }
            return true;
        }

        private void hand(int c, int fine) {
            if (c >= 0 && c < fines.length) {
                fines[c] = fine;
            }
        }

        private void wear(int fine) {
            if (fine > stone) {
                stone++;
            } else if (fine < stone) {
                stone--;
            }
        }

        private int hearsay(Mill mill, int p) {
            int bits = mouthBits(mill, p);
            int sum = 0;
            for (int i = 0; i < mill.size(); i++) {
                if (isIn(bits, i)) {
                    sum += mill.worthOf(i, whoIn(p));
                }
            }
            return sum;
        }

        /** Whose words count for the one at that place. */
        int mouthBits(Mill mill, int p) {
            int c = whoIn(p);
            int bits = 0;
            int taken = 0;
            for (int q = p + 1; q <= p + MOST_HEARD && q < size; q++) {
                int teller = whoIn(q);
                int kind = mill.kindOf(teller);
                int word = 1 << mill.wordOf(teller, c);
                if (kind == CHILD || kind != DEAF && (taken & word) == 0) {
                    bits |= 1 << teller;
                }
                // a word that did not count itself still silences those farther off
                if (kind != CHILD && kind != DEAF) {
                    taken |= word;
                }
            }
            return bits;
        }

        int size() {
            return size;
        }

        int stoneThen() {
            return stone;
        }

        /** NONE for one for whom nothing was ground. */
        int fineOf(int c) {
            return c >= 0 && c < fines.length ? fines[c] : NONE;
        }

        int branBits() {
            int bits = 0;
            for (int p = 0; p < size; p++) {
                int c = whoIn(p);
                if (c != guest && breadOf(fineOf(c)) == BRAN) {
                    bits |= 1 << c;
                }
            }
            return bits;
        }

        int placeIn(int c) {
            for (int p = 0; p < size; p++) {
                if (whoIn(p) == c) {
                    return p;
                }
            }
            return NOBODY;
        }

        private int whoIn(int p) {
            return p >= 0 && p < row.length ? row[p] : NOBODY;
        }

        void copyRow(int[] target) {
            for (int p = 0; p < size && p < target.length; p++) {
                target[p] = whoIn(p);
            }
        }

        /** On to the next order, by the first one, then the second, ..; false behind the last. */
        boolean nextOrder() {
            int pivot = size - 2;
            while (pivot >= 0 && whoIn(pivot) > whoIn(pivot + 1)) {
                pivot--;
            }
            if (pivot < 0) {
                return false;
            }
            int other = size - 1;
            while (other > pivot && whoIn(other) < whoIn(pivot)) {
                other--;
            }
            trade(pivot, other);
            for (int low = pivot + 1, high = size - 1; low < high; low++, high--) {
                trade(low, high);
            }
            return true;
        }

        private void trade(int p, int q) {
            if (p >= 0 && p < row.length && q >= 0 && q < row.length) {
                int c = row[p];
                row[p] = row[q];
                row[q] = c;
            }
        }
    }

    /** What is SEEN: who, and how FINE he has it. */
    private static final class Sightings {
        private final int[] who = new int[MOST_SEEN];
        private final int[] fines = new int[MOST_SEEN];
        private int size;

        int size() {
            return size;
        }

        boolean isFull() {
            return size >= MOST_SEEN;
        }

        void clear() {
            size = 0;
        }

        void add(int c, int fine) {
            if (size >= 0 && size < MOST_SEEN) {
                who[size] = c;
                fines[size] = fine;
                size++;
            }
        }

        /** By a round in which nothing is ground for who is AWAY, so that what is SEEN of him is not so. */
        boolean areSo(Round round) {
            for (int i = 0; i < size && i < MOST_SEEN; i++) {
                if (round.fineOf(who[i]) != fines[i]) {
                    return false;
                }
            }
            return true;
        }
    }
}
