/**
 * The bell that calls on: where the bell is there is school, and in the evening it is carried to
 * the home of who came last. Nothing is made behind the constructor: every row that a call needs
 * is made once and used again.
 */
public final class BellSchool {
    public static final int BAD = -1, NO = -2, FULL = -3, NONE = -4;

    private static final int MOST_HOMES = 7, PAIRS = 49, ROUND = 28;
    private static final int LAME = 1, POOR = 2, SLEEPER = 3;
    private static final int KEEPING = 20, SLEEPING = 15;
    private static final int MOST_SEEN = 6, LOOK_AHEAD = 56, SO_AS_IT_IS = 128;
    private static final String FIRST_TEXT =
        "h0,5;h1,10;h2,8;h0,20;h3,0;h0,12;w0,1,10;w1,2,15;w2,3,20;w3,4,10;w4,0,25;w4,5,8;w2,5,30;s0,1,3,9;s4,5,5,6;b0;n55;";

    private Valley valley = new Valley();
    private Valley draft = new Valley();
    private final Text text = new Text();
    private final Reader reader = new Reader();
    private final Noon noon = new Noon(valley);
    private final Standing now = new Standing();
    private final Standing dream = new Standing();
    private final Shelf undoable = new Shelf(8);
    private final Shelf kept = new Shelf(2);
    private final Search search = new Search();
    private final Measles chances = new Measles();
    private final int[] seenHome = new int[MOST_SEEN];
    private final int[] seenDays = new int[MOST_SEEN];
    private int seen = 0;

    public BellSchool() {
        for (int i = 0; i < FIRST_TEXT.length(); i++) {
            text.add(FIRST_TEXT.charAt(i));
        }
        layText();
        text.length = 0;
    }

    // ---- valleys

    public int write(int letter) {
        if (letter < 32 || letter > 126) {
            return BAD;
        }
        return text.add((char) letter) ? text.length : FULL;
    }

    public int wipe() {
        int length = text.length;
        text.length = 0;
        return length;
    }

    public int fault() {
        return reader.readInto(draft, text);
    }

    public int lay() {
        return layText() ? valley.homes : NO;
    }

    public int home(int h, int what) {
        if (!valley.has(h) || what < 0 || what > 6) {
            return BAD;
        }
        switch (what) {
            case 0: return valley.kind[h];
            case 1: return valley.late[h];
            case 2: return now.bell == h ? 1 : 0;
            case 3: return now.had >> h & 1;
            case 4: return now.soups[h];
            case 5: return now.sick >> h & 1;
            default: return now.held >> h & 1;
        }
    }

    public int way(int a, int b, int what) {
        if (!valley.hasTwo(a, b) || what < 0 || what > 1) {
            return BAD;
        }
        int pair = pairOf(a, b);
        if (valley.minutes[pair] == 0) {
            return NONE;
        }
        if (what == 0) {
            return valley.minutes[pair];
        }
        return valley.canBeGone(pair, now.day % ROUND, now.shut) ? 1 : 0;
    }

    public int far(int a, int b) {
        if (!valley.has(a) || !valley.has(b)) {
            return BAD;
        }
        return noon.farOn(now.day, now.shut, a, b);
    }

    public int comes(int c) {
        if (!valley.has(c)) {
            return BAD;
        }
        noon.gather(now);
        return noon.times[c];
    }

    public int last() {
        noon.gather(now);
        return noon.latest;
    }

    // ---- days

    public int pass(int n) {
        if (n < 1 || n > ROUND) {
            return BAD;
        }
        undoable.putDroppingOldest(now);
        goBy(now, n);
        return now.bell;
    }

    public int keepBack(int c) {
        if (!valley.has(c)) {
            return BAD;
        }
        undoable.putDroppingOldest(now);
        now.held ^= 1 << c;
        return now.held >> c & 1;
    }

    public int sick(int c) {
        if (!valley.has(c)) {
            return BAD;
        }
        undoable.putDroppingOldest(now);
        now.sick ^= 1 << c;
        return now.sick >> c & 1;
    }

    public int shut(int a, int b) {
        if (!valley.hasTwo(a, b)) {
            return BAD;
        }
        int pair = pairOf(a, b);
        if (valley.minutes[pair] == 0) {
            return NO;
        }
        undoable.putDroppingOldest(now);
        now.shut ^= 1L << pair;
        return (now.shut >> pair & 1L) != 0 ? 1 : 0;
    }

    public int undo() {
        return undoable.takeInto(now) ? undoable.size : NO;
    }

    // ---- what comes

    public int behind(int n) {
        if (n < 0 || n > 60) {
            return BAD;
        }
        dream.copy(now);
        goBy(dream, n);
        return dream.bell;
    }

    public int again() {
        dream.copy(now);
        for (int t = 1; t <= LOOK_AHEAD; t++) {
            noon.goBy(dream);
            if (dream.bell == now.bell) {
                return t;
            }
        }
        return NONE;
    }

    public int each(int k) {
        if (k < 0 || k > ROUND) {
            return BAD;
        }
        search.search(noon, now);
        if (k == 0) {
            return search.days;
        }
        return k <= search.days ? search.row[k - 1] : NONE;
    }

    public int always() {
        int children = allBits();
        dream.copy(now);
        for (int h = 0; h < valley.homes; h++) {
            dream.bell = h;
            noon.gather(dream);
            children &= noon.latest == NONE ? 0 : 1 << noon.latest;
        }
        return children;
    }

    public int never() {
        int homes = allBits() & ~(1 << now.bell);
        dream.copy(now);
        for (int t = 1; t <= LOOK_AHEAD; t++) {
            noon.goBy(dream);
            homes &= ~(1 << dream.bell);
        }
        return homes;
    }

    // ---- what was seen

    public int see(int h, int days) {
        if (!valley.has(h) || days < 1 || days > ROUND) {
            return BAD;
        }
        if (seen >= MOST_SEEN) {
            return FULL;
        }
        seenHome[seen] = h;
        seenDays[seen] = days;
        seen++;
        return seen;
    }

    public int forget() {
        int were = seen;
        seen = 0;
        return were;
    }

    public int fog() {
        int homes = 0;
        for (int h = 0; h < valley.homes; h++) {
            if (fitsSeen(h, now.held)) {
                homes |= 1 << h;
            }
        }
        return homes;
    }

    public int tripped() {
        int children = fitsSeen(now.bell, now.held) ? SO_AS_IT_IS : 0;
        for (int c = 0; c < valley.homes; c++) {
            if (fitsSeen(now.bell, now.held | (1 << c))) {
                children |= 1 << c;
            }
        }
        return children;
    }

    // ---- measles, years

    public long measles(int h, int n, int x, int part) {
        if (!valley.has(h) || n < 0 || n > 2 || x < 0 || x > 10 || part < 0 || part > 1) {
            return BAD;
        }
        dream.copy(now);
        chances.reckon(noon, dream, n, x);
        long above = chances.chance[h];
        long divisor = Math.max(1L, commonDivisor(above, chances.below));
        return (part == 0 ? above : chances.below) / divisor;
    }

    public int year(int z, int n, int what) {
        if (z < 0 || z > 9999 || n < 1 || n > 60 || what < 0 || what > 1) {
            return BAD;
        }
        dream.copy(now);
        for (int k = 0; k < n; k++) {
            dream.held |= drawnOn(z, k);
            noon.goBy(dream);
        }
        return what == 0 ? dream.bell : dream.soupsInAll() - now.soupsInAll();
    }

    public int keep() {
        return kept.put(now) ? kept.size : FULL;
    }

    public int back() {
        if (!kept.takeInto(now)) {
            return NO;
        }
        undoable.size = 0;
        return kept.size;
    }

    public int count(int what) {
        switch (what) {
            case 0: return valley.homes;
            case 1: return valley.ways();
            case 2: return Long.bitCount(now.shut);
            case 3: return now.day;
            case 4: return now.bell;
            case 5: return Integer.bitCount(now.sick);
            case 6: return now.soupsInAll();
            case 7: return seen;
            case 8: return undoable.size;
            case 9: return kept.size;
            case 10: return text.length;
            default: return BAD;
        }
    }

    // ---- help

    /** Reads into the draft, so that a text that cannot be laid leaves the valley as it was. */
    private boolean layText() {
        if (reader.readInto(draft, text) != NONE || !draft.has(draft.bell)) {
            return false;
        }
        Valley old = valley;
        valley = draft;
        draft = old;
        noon.settle(valley);
        search.known = false;
        now.begin(valley.bell);
        undoable.size = 0;
        kept.size = 0;
        seen = 0;
        return true;
    }

    private void goBy(Standing standing, int days) {
        for (int t = 0; t < days; t++) {
            noon.goBy(standing);
        }
    }

    private int allBits() {
        return (1 << valley.homes) - 1;
    }

    /** Whether all that is seen is so, with the bell at a home now and these held. */
    private boolean fitsSeen(int bell, int held) {
        dream.copy(now);
        dream.bell = bell;
        dream.held = held;
        int farthest = farthestSeen();
        for (int t = 1; t <= farthest; t++) {
            noon.goBy(dream);
            if (!isSeenAt(dream.bell, t)) {
                return false;
            }
        }
        return true;
    }

    private int farthestSeen() {
        int farthest = 0;
        for (int i = 0; i < seen; i++) {
            farthest = Math.max(farthest, seenDays[i]);
        }
        return farthest;
    }

    private boolean isSeenAt(int bell, int days) {
        for (int i = 0; i < seen; i++) {
            if (seenDays[i] == days && seenHome[i] != bell) {
                return false;
            }
        }
        return true;
    }

    /** Who is held by the draw of a day, as a bit; 0 if nobody is. */
    private int drawnOn(int z, int k) {
        long x = 7919L * z + 6151L * k + 1L;
        long draw = x * x % 65521L / 2L;
        if (draw / 8L % 2L != 0L || valley.homes < 1) {
            return 0;
        }
        return 1 << (int) (draw % valley.homes);
    }

    /** A way is the same from both its ends. */
    private static int pairOf(int a, int b) {
        return Math.min(a, b) * MOST_HOMES + Math.max(a, b);
    }

    private static long commonDivisor(long a, long b) {
        long left = a;
        long right = b;
        // Euclid takes some 90 steps at most for a long.
        for (int i = 0; i < 200 && right != 0; i++) {
            long rest = left % right;
            left = right;
            right = rest;
        }
        return left;
    }

    /** THE TEXT. */
    private static final class Text {
        final char[] letters = new char[200];
        int length = 0;

        boolean add(char letter) {
            if (length >= letters.length) {
                return false;
            }
            letters[length] = letter;
            length++;
            return true;
        }

        /** Behind the end stands a letter that fits nowhere. */
        char at(int place) {
            return place >= 0 && place < length ? letters[place] : ' ';
        }
    }

    /** Reads a text item by item. */
    private static final class Reader {
        private final int[] number = new int[4];
        private int place = 0;

        /** Where the first fault is, or NONE; the valley holds what stands ahead of it. */
        int readInto(Valley valley, Text text) {
            valley.clear();
            place = 0;
            for (int items = 0; items < text.letters.length && place < text.length; items++) {
                int start = place;
                int letter = text.at(start);
                if (!readNumbers(text, numbersOf(letter)) || !told(valley, letter)) {
                    return start;
                }
            }
            return NONE;
        }

        private static int numbersOf(int letter) {
            switch (letter) {
                case 'h': return 2;
                case 'w': return 3;
                case 's': return 4;
                case 'b': return 1;
                case 'n': return 1;
                default: return 0;
            }
        }

        /** The place goes behind the letter and its numbers, if they are so. */
        private boolean readNumbers(Text text, int many) {
            if (many < 1 || many > number.length) {
                return false;
            }
            place++;
            for (int i = 0; i < many; i++) {
                if (!isFigure(text.at(place))) {
                    return false;
                }
                number[i] = text.at(place) - '0';
                place++;
                if (isFigure(text.at(place))) {
                    number[i] = number[i] * 10 + (text.at(place) - '0');
                    place++;
                }
                if (text.at(place) != (i == many - 1 ? ';' : ',')) {
                    return false;
                }
                place++;
            }
            return true;
        }

        private static boolean isFigure(char letter) {
            return letter >= '0' && letter <= '9';
        }

        private boolean told(Valley valley, int letter) {
            switch (letter) {
                case 'h': return valley.addHome(number[0], number[1]);
                case 'w': return valley.addWay(number[0], number[1], number[2]);
                case 's': return valley.addSnow(number[0], number[1], number[2], number[3]);
                case 'b': return valley.putBell(number[0]);
                case 'n': return valley.limit(number[0]);
                default: return false;
            }
        }
    }

    /** What a text tells: it does not change by the days. */
    private static final class Valley {
        final int[] kind = new int[MOST_HOMES];
        final int[] late = new int[MOST_HOMES];
        /** By pair; 0 where there is no way. */
        final int[] minutes = new int[PAIRS];
        private final int[] snowFrom = new int[PAIRS];
        private final int[] snowTo = new int[PAIRS];
        int homes = 0;
        int bell = 0;
        int farthest = 0;

        void clear() {
            homes = 0;
            bell = 0;
            farthest = 60;
            for (int pair = 0; pair < PAIRS; pair++) {
                minutes[pair] = 0;
                snowFrom[pair] = ROUND;
                snowTo[pair] = 0;
            }
        }

        boolean has(int h) {
            return h >= 0 && h < homes;
        }

        boolean hasTwo(int a, int b) {
            return has(a) && has(b) && a != b;
        }

        boolean addHome(int k, int l) {
            if (homes >= MOST_HOMES || k > SLEEPER || l > 40) {
                return false;
            }
            kind[homes] = k;
            late[homes] = l;
            homes++;
            return true;
        }

        boolean addWay(int a, int b, int m) {
            if (!hasTwo(a, b) || m < 1 || m > 60) {
                return false;
            }
            minutes[pairOf(a, b)] = m;
            return true;
        }

        boolean addSnow(int a, int b, int from, int to) {
            if (!hasTwo(a, b) || to >= ROUND || from > to) {
                return false;
            }
            snowFrom[pairOf(a, b)] = from;
            snowTo[pairOf(a, b)] = to;
            return true;
        }

        boolean putBell(int x) {
            bell = x;
            return x < MOST_HOMES;
        }

        boolean limit(int n) {
            farthest = n;
            return n >= 1;
        }

        int ways() {
            int many = 0;
            for (int pair = 0; pair < PAIRS; pair++) {
                many += minutes[pair] > 0 ? 1 : 0;
            }
            return many;
        }

        boolean canBeGone(int pair, int dayOfRound, long shut) {
            boolean snowed = dayOfRound >= snowFrom[pair] && dayOfRound <= snowTo[pair];
            return minutes[pair] > 0 && !snowed && (shut >> pair & 1L) == 0;
        }
    }

    /** How things stand on a day: all that the days change. Children and homes are bits. */
    private static final class Standing {
        final int[] soups = new int[MOST_HOMES];
        int day = 0;
        int bell = 0;
        int held = 0;
        int sick = 0;
        int had = 0;
        long shut = 0L;

        void begin(int home) {
            day = 0;
            bell = home;
            held = 0;
            sick = 0;
            had = 1 << home;
            shut = 0L;
            for (int h = 0; h < MOST_HOMES; h++) {
                soups[h] = 0;
            }
        }

        void copy(Standing other) {
            day = other.day;
            bell = other.bell;
            held = other.held;
            sick = other.sick;
            had = other.had;
            shut = other.shut;
            for (int h = 0; h < MOST_HOMES; h++) {
                soups[h] = other.soups[h];
            }
        }

        /** Alike in all that the search looks at (not in who is held, nor in soups). */
        boolean isLike(Standing other) {
            return day == other.day && bell == other.bell && sick == other.sick
                && had == other.had && shut == other.shut;
        }

        int soupsInAll() {
            int all = 0;
            for (int h = 0; h < MOST_HOMES; h++) {
                all += soups[h];
            }
            return all;
        }
    }

    /** Standings put one upon the other, as many as it has room for. */
    private static final class Shelf {
        private final Standing[] rows;
        int size = 0;

        Shelf(int room) {
            rows = new Standing[Math.max(1, room)];
            for (int i = 0; i < rows.length; i++) {
                rows[i] = new Standing();
            }
        }

        boolean put(Standing standing) {
            if (size < 0 || size >= rows.length) {
                return false;
            }
            rows[size].copy(standing);
            size++;
            return true;
        }

        void putDroppingOldest(Standing standing) {
            if (size >= rows.length) {
                Standing oldest = rows[0];
                for (int i = 1; i < rows.length; i++) {
                    rows[i - 1] = rows[i];
                }
                rows[rows.length - 1] = oldest;
                size = rows.length - 1;
            }
            put(standing);
        }

        boolean takeInto(Standing standing) {
            if (size < 1 || size > rows.length) {
                return false;
            }
            size--;
            standing.copy(rows[size]);
            return true;
        }
    }

    /** The rules of one day. */
    private static final class Noon {
        private static final int NO_WAY = 1000000;

        /** By day of the round and two homes; good while the ways shut are those it was made by. */
        private final int[] fars = new int[ROUND * PAIRS];
        private final long[] shutThen = new long[ROUND];
        private Valley valley;
        /** By child, as last gathered; NONE where it does not come. */
        final int[] times = new int[MOST_HOMES];
        int latest = NONE;
        int comers = 0;

        Noon(Valley laid) {
            valley = laid;
        }

        void settle(Valley laid) {
            valley = laid;
            for (int d = 0; d < ROUND; d++) {
                shutThen[d] = -1L;
            }
        }

        int homes() {
            return valley.homes;
        }

        int farOn(int day, long shut, int a, int b) {
            int far = fars[readyFars(day, shut) + a * MOST_HOMES + b];
            return far < NO_WAY ? far : NONE;
        }

        /** Where the fars of a day begin, reckoned anew if they were made by other ways shut. */
        private int readyFars(int day, long shut) {
            int d = day % ROUND;
            int base = d * PAIRS;
            if (shutThen[d] == shut) {
                return base;
            }
            for (int a = 0; a < valley.homes; a++) {
                for (int b = 0; b < valley.homes; b++) {
                    int pair = pairOf(a, b);
                    int straight = valley.canBeGone(pair, d, shut) ? valley.minutes[pair] : NO_WAY;
                    fars[base + a * MOST_HOMES + b] = a == b ? 0 : straight;
                }
            }
            for (int by = 0; by < valley.homes; by++) {
                for (int a = 0; a < valley.homes; a++) {
                    shortenBy(by, a, base);
                }
            }
            shutThen[d] = shut;
            return base;
        }

        private void shortenBy(int by, int a, int base) {
            int first = fars[base + a * MOST_HOMES + by];
            for (int b = 0; b < valley.homes; b++) {
                int whole = first + fars[base + by * MOST_HOMES + b];
                int place = base + a * MOST_HOMES + b;
                fars[place] = Math.min(fars[place], whole);
            }
        }

        private int timeOf(Standing s, int c, int base) {
            if ((s.sick >> c & 1) != 0) {
                return NONE;
            }
            int keeping = (s.held >> c & 1) * KEEPING;
            if (c == s.bell) {
                return keeping;
            }
            int far = fars[base + c * MOST_HOMES + s.bell];
            if (far > valley.farthest) {
                return NONE;
            }
            int sleeping = valley.kind[c] == SLEEPER ? SLEEPING : 0;
            return walk(far, valley.kind[c]) + valley.late[c] + sleeping + keeping;
        }

        private static int walk(int far, int kind) {
            if (kind == LAME) {
                return far * 2;
            }
            return kind == POOR ? far * 2 / 3 : far;
        }

        /** Who comes when, how many, and who is last. */
        void gather(Standing s) {
            latest = NONE;
            comers = 0;
            int base = readyFars(s.day, s.shut);
            for (int c = 0; c < valley.homes; c++) {
                times[c] = timeOf(s, c, base);
                if (times[c] == NONE) {
                    continue;
                }
                comers++;
                if (latest == NONE || times[c] >= times[latest]) {
                    latest = c;
                }
            }
        }

        void goBy(Standing s) {
            gather(s);
            s.soups[s.bell] += comers;
            if (latest != NONE) {
                s.bell = latest;
            }
            s.had |= 1 << s.bell;
            s.held = 0;
            s.day++;
        }

        /** Who would be last of those gathered, were one of them held besides; NONE if nobody. */
        int latestHolding(int c) {
            if (latest == NONE || times[c] == NONE) {
                return latest;
            }
            int held = times[c] + KEEPING;
            boolean later = held > times[latest] || held == times[latest] && c > latest;
            return later ? c : latest;
        }

        /** How many of those gathered would be last ahead of a child. */
        int laterThan(int c) {
            int later = 0;
            for (int d = 0; d < valley.homes; d++) {
                if (times[d] > times[c] || times[d] == times[c] && d > c) {
                    later++;
                }
            }
            return later;
        }
    }

    /**
     * The fewest days behind which each home has had the bell. The bell's home has had it, so six
     * homes at most have not: a set of sets of these is one long, bit m for the set with bits m.
     */
    private static final class Search {
        private static final int CHOICES = MOST_HOMES + 1;
        /** The sets that hold a home, by its number among those that had not had the bell. */
        private static final long[] HOLDING = {
            0xAAAAAAAAAAAAAAAAL, 0xCCCCCCCCCCCCCCCCL, 0xF0F0F0F0F0F0F0F0L,
            0xFF00FF00FF00FF00L, 0xFFFF0000FFFF0000L, 0xFFFFFFFF00000000L};

        /** By day and home of the bell: the sets that can have had it by then. */
        private final long[] reached = new long[(ROUND + 1) * MOST_HOMES];
        /** By day and home of the bell: the sets from which all is had in time. */
        private final long[] hopeful = new long[(ROUND + 1) * MOST_HOMES];
        /** By day, home and choice (0 nobody, then the children): where the bell is next. */
        private final int[] next = new int[ROUND * MOST_HOMES * CHOICES];
        private final int[] numbers = new int[MOST_HOMES];
        private final Standing asked = new Standing();
        private final Standing dream = new Standing();
        private int homes = 0;
        private int whole = 0;
        final int[] row = new int[ROUND];
        int days = NONE;
        boolean known = false;

        void search(Noon noon, Standing now) {
            if (known && asked.isLike(now)) {
                return;
            }
            begin(now, noon.homes());
            int t = 0;
            while (t < ROUND && !isWholeBy(t)) {
                spread(noon, t);
                t++;
            }
            days = isWholeBy(t) ? t : NONE;
            if (days != NONE) {
                findHopeful();
                findRow();
            }
        }

        private void begin(Standing now, int many) {
            known = true;
            asked.copy(now);
            dream.copy(now);
            dream.held = 0;
            homes = many;
            numberMissing();
            for (int i = 0; i < reached.length; i++) {
                reached[i] = 0L;
            }
            reached[now.bell] = 1L;
        }

        private void numberMissing() {
            int missing = 0;
            for (int h = 0; h < MOST_HOMES; h++) {
                boolean lacks = h < homes && (asked.had >> h & 1) == 0;
                numbers[h] = lacks && missing < HOLDING.length ? missing : NONE;
                missing += lacks ? 1 : 0;
            }
            whole = (1 << missing) - 1;
        }

        private boolean isWholeBy(int t) {
            for (int h = 0; h < homes; h++) {
                if ((reached[t * MOST_HOMES + h] >>> whole & 1L) != 0) {
                    return true;
                }
            }
            return false;
        }

        private void spread(Noon noon, int t) {
            dream.day = asked.day + t;
            for (int h = 0; h < homes; h++) {
                long sets = reached[t * MOST_HOMES + h];
                if (sets == 0L) {
                    continue;
                }
                dream.bell = h;
                noon.gather(dream);
                for (int choice = 0; choice <= homes; choice++) {
                    int last = choice == 0 ? noon.latest : noon.latestHolding(choice - 1);
                    int to = last == NONE ? h : last;
                    next[placeOf(t, h, choice)] = to;
                    reached[(t + 1) * MOST_HOMES + to] |= joined(sets, numbers[to]);
                }
            }
        }

        private static int placeOf(int t, int h, int choice) {
            return (t * MOST_HOMES + h) * CHOICES + choice;
        }

        /** Each of the sets with a home put to it. */
        private static long joined(long sets, int number) {
            if (number < 0 || number >= HOLDING.length) {
                return sets;
            }
            long holding = HOLDING[number];
            return (sets & holding) | ((sets & ~holding) << (1 << number));
        }

        /** All that are one of the sets once a home is put to them. */
        private static long before(long sets, int number) {
            if (number < 0 || number >= HOLDING.length) {
                return sets;
            }
            long with = sets & HOLDING[number];
            return with | (with >>> (1 << number));
        }

        private void findHopeful() {
            for (int h = 0; h < homes; h++) {
                hopeful[days * MOST_HOMES + h] = 1L << whole;
            }
            for (int t = days - 1; t >= 0; t--) {
                for (int h = 0; h < homes; h++) {
                    hopeful[t * MOST_HOMES + h] = hopesFrom(t, h);
                }
            }
        }

        private long hopesFrom(int t, int h) {
            long sets = 0L;
            if (reached[t * MOST_HOMES + h] == 0L) {
                return sets;
            }
            for (int choice = 0; choice <= homes; choice++) {
                int to = next[placeOf(t, h, choice)];
                sets |= before(hopeful[(t + 1) * MOST_HOMES + to], numbers[to]);
            }
            return sets;
        }

        /** On each day the first choice that still leads to the whole. */
        private void findRow() {
            int bell = asked.bell;
            long set = 1L;
            for (int t = 0; t < days; t++) {
                int choice = firstHopeful(t, bell, set);
                row[t] = choice == 0 ? NONE : choice - 1;
                bell = next[placeOf(t, bell, choice)];
                set = joined(set, numbers[bell]);
            }
        }

        private int firstHopeful(int t, int bell, long set) {
            for (int choice = 0; choice < homes; choice++) {
                int to = next[placeOf(t, bell, choice)];
                if ((joined(set, numbers[to]) & hopeful[(t + 1) * MOST_HOMES + to]) != 0) {
                    return choice;
                }
            }
            return homes;
        }
    }

    /** The chances of where the bell is, all over one number below. */
    private static final class Measles {
        final long[] chance = new long[MOST_HOMES];
        private final long[] then = new long[MOST_HOMES];
        long below = 1L;

        void reckon(Noon noon, Standing dream, int days, int x) {
            for (int h = 0; h < MOST_HOMES; h++) {
                chance[h] = h == dream.bell ? 1L : 0L;
            }
            below = 1L;
            for (int t = 0; t < days; t++) {
                spread(noon, dream, x);
                dream.held = 0;
                dream.day++;
            }
        }

        private void spread(Noon noon, Standing dream, int x) {
            for (int h = 0; h < MOST_HOMES; h++) {
                then[h] = 0L;
            }
            for (int h = 0; h < noon.homes(); h++) {
                if (chance[h] != 0) {
                    dream.bell = h;
                    noon.gather(dream);
                    spreadFrom(h, noon, x);
                }
            }
            for (int h = 0; h < MOST_HOMES; h++) {
                chance[h] = then[h];
            }
            below *= power(10, noon.homes());
        }

        /** A child is last if it comes and none of those later than it does. */
        private void spreadFrom(int h, Noon noon, int x) {
            int homes = noon.homes();
            then[h] += chance[h] * power(x, noon.comers) * power(10, homes - noon.comers);
            for (int c = 0; c < homes; c++) {
                if (noon.times[c] != NONE) {
                    int later = noon.laterThan(c);
                    long part = (10 - x) * power(x, later) * power(10, homes - 1 - later);
                    then[c] += chance[h] * part;
                }
            }
        }

        private static long power(int base, int exponent) {
            long product = 1L;
            for (int i = 0; i < exponent; i++) {
                product *= base;
            }
            return product;
        }
    }
}
