import java.util.Arrays;

/**
 * Sayings put together: what several sayers say of six letters, and the worlds nearest to all of them.
 * A set of worlds is a long (bit w: world w is in it); a set of sayers or of letters is an int.
 */
public final class SayingsMerged {
    public static final int BAD = -1, FULL = -3, NONE = -9;

    private static final int LETTERS = 6;
    private static final int WORLDS = 64;
    private static final int MAX_BYTES = 300;
    private static final int MAX_LAWS = 3;
    private static final int MAX_SAYERS = 7;
    private static final int MAX_OPEN = 8;
    private static final int MAX_COST = 9;
    private static final int FAULT_BASE = -10;
    private static final int NOBODY = -1;

    private static final int BY_SUM = 0;
    private static final int BY_WORST = 1;
    private static final int BY_ROW = 2;

    private static final int KIND_SAYER = 0;
    private static final int KIND_WEIGHTY = 1;
    private static final int KIND_LONE = 2;
    private static final int KIND_FIRM = 3;

    /** A BURDEN is at most 9 * 54 = 486, so nine bits hold one, and seven of them fill 63 bits. */
    private static final int ROW_BITS = 9;
    private static final int ROW_MASK = 511;
    private static final int ROW_TOP = ROW_BITS * (MAX_SAYERS - 1);

    /** Farther than any two worlds can be (54). */
    private static final long UNREACHED = 1000;

    /** WORLDS in which each LETTER is so. */
    private static final long[] LETTER_SO = {
        0xAAAAAAAAAAAAAAAAL, 0xCCCCCCCCCCCCCCCCL, 0xF0F0F0F0F0F0F0F0L,
        0xFF00FF00FF00FF00L, 0xFFFF0000FFFF0000L, 0xFFFFFFFF00000000L
    };
    private static final long ALL_WORLDS = -1L;

    /** TOKENS that are no single byte. */
    private static final int LAW = 256, SAY = 257, END = 258, NO_TOKEN = 259;
    private static final int NO_FAULT = -1;

    /** In how many orders 0 .. 7 can come. */
    private static final int[] ORDERS = {1, 1, 2, 6, 24, 120, 720, 5040};

    private final Text text;
    private final Reader reader;
    private Told told;
    /** Where a text is read to, so that a fault leaves what was told as it is. */
    private Told spare;
    private long asked;
    private final Distances distances;
    /** FAR of each WORLD from what each SAYER says. */
    private final long[][] fars;
    /** For each set of SAYERS the WORLDS THERE in which all that they say is so. */
    private final long[] common;
    private final long[] others;
    private final long[] scale;
    private long traced;

    public SayingsMerged() {
        text = new Text();
        reader = new Reader(text);
        told = new Told();
        spare = new Told();
        asked = ALL_WORLDS;
        distances = new Distances();
        fars = new long[MAX_SAYERS][WORLDS];
        common = new long[1 << MAX_SAYERS];
        common[0] = ALL_WORLDS;
        others = new long[WORLDS];
        scale = new long[WORLDS];
        traced = 0;
    }

    // ---- texts

    public int type(long v, int n) {
        if (n < 1 || n > 8) {
            return BAD;
        }
        if (text.length + n > MAX_BYTES) {
            return FULL;
        }
        for (int k = n - 1; k >= 0; k--) {
            text.append((int) (v >>> (8 * k)) & 255);
        }
        return text.length;
    }

    public int clear() {
        int had = text.length;
        text.length = 0;
        return had;
    }

    public int tell() {
        reader.readItems(spare);
        if (reader.isFaulty()) {
            return FAULT_BASE - reader.fault;
        }
        Told old = told;
        told = spare;
        spare = old;
        text.length = 0;
        findCommon();
        findFars();
        return told.laws + told.sayers;
    }

    public int question() {
        long read = reader.readQuestion();
        if (reader.isFaulty()) {
            return FAULT_BASE - reader.fault;
        }
        asked = read;
        text.length = 0;
        return 1;
    }

    public long worlds(int what, int i) {
        switch (what) {
            case 0:
                return told.there;
            case 1:
                return isSayer(i) ? told.says[i] : 0;
            case 2:
                return asked;
            default:
                return 0;
        }
    }

    // ---- far

    public int cost(int letter, int v) {
        if (letter < 0 || letter >= LETTERS || v < 0 || v > MAX_COST) {
            return BAD;
        }
        int was = distances.costs[letter];
        distances.costs[letter] = v;
        findFars();
        return was;
    }

    public int measure(int v) {
        if (v != 0 && v != 1) {
            return BAD;
        }
        int was = distances.alike ? 1 : 0;
        distances.alike = v == 1;
        findFars();
        return was;
    }

    public int apart(int one, int other) {
        if (!isWorld(one) || !isWorld(other)) {
            return BAD;
        }
        return distances.lengths[one ^ other];
    }

    public int burden(int i, int world) {
        if (!isSayer(i) || !isWorld(world)) {
            return BAD;
        }
        return (int) burdenOf(i, world);
    }

    // ---- put together

    public long merged(int way) {
        return isWay(way) ? mergedBy(way) : 0;
    }

    public int value(int way, int world) {
        if ((way != BY_SUM && way != BY_WORST) || !isWorld(world)) {
            return BAD;
        }
        return (int) weighed(way, world, NOBODY);
    }

    public int held(int way) {
        if (!isWay(way)) {
            return BAD;
        }
        return (mergedBy(way) & ~asked) == 0 ? 1 : 0;
    }

    public long changed(int i, int how) {
        if (!isSayer(i)) {
            return 0;
        }
        switch (how) {
            case 0:
                return least(told.there & asked, fars[i]);
            case 1:
                return goneAlong(told.says[i], told.there & asked);
            case 2:
                return (told.there & told.says[i]) | least(told.there & ~asked, fars[i]);
            default:
                return 0;
        }
    }

    // ---- quarrels

    public int quarrels(int set) {
        if (set < 0 || set >= setsOfSayers()) {
            return BAD;
        }
        return isQuarrel(set) ? 1 : 0;
    }

    public int sets(int what, int k) {
        if ((what != 0 && what != 1) || k < -1) {
            return BAD;
        }
        int seen = 0;
        for (int step = 0; step <= told.sayers; step++) {
            int size = what == 0 ? step : told.sayers - step;
            for (int set = 0; set < setsOfSayers(); set++) {
                if (Integer.bitCount(set) == size && isListed(what, set)) {
                    if (seen == k) {
                        return set;
                    }
                    seen++;
                }
            }
        }
        return k == -1 ? seen : BAD;
    }

    public int free() {
        int quarrelling = 0;
        for (int set = 0; set < setsOfSayers(); set++) {
            if (isLeastQuarrel(set)) {
                quarrelling |= set;
            }
        }
        return (setsOfSayers() - 1) & ~quarrelling;
    }

    public int share(int i, int what) {
        if (!isSayer(i) || (what != 0 && what != 1)) {
            return BAD;
        }
        int upper = ordersTurnedBy(i);
        int lower = ORDERS[told.sayers];
        int divisor = commonDivisor(upper, lower);
        if (divisor < 1) {
            return BAD;
        }
        return (what == 0 ? upper : lower) / divisor;
    }

    public int lie(int i, int way, int what) {
        if (!isSayer(i) || !isWay(way) || what < 0 || what > 2) {
            return BAD;
        }
        long trueLoss = lossOf(i, mergedBy(way));
        if (what == 2) {
            return (int) trueLoss;
        }
        return bestLie(i, way, trueLoss, what == 1);
    }

    public int worth(int kind, int i) {
        if (!isSayer(i)) {
            return BAD;
        }
        switch (kind) {
            case KIND_SAYER:
                return sayerWorth(i);
            case KIND_WEIGHTY:
                return weightyWorth(i);
            case KIND_LONE:
                return loneWorth(i);
            case KIND_FIRM:
                return firmWorth(i);
            default:
                return BAD;
        }
    }

    public int count(int what) {
        switch (what) {
            case 0:
                return told.laws;
            case 1:
                return told.sayers;
            case 2:
                return text.length;
            case 3:
                return told.allWeights();
            case 4:
                return Long.bitCount(told.there);
            default:
                return BAD;
        }
    }

    public long trace() {
        return traced;
    }

    // ---- what arguments may be

    private boolean isSayer(int i) {
        return i >= 0 && i < told.sayers;
    }

    private static boolean isWorld(int world) {
        return world >= 0 && world < WORLDS;
    }

    private static boolean isWay(int way) {
        return way >= BY_SUM && way <= BY_ROW;
    }

    private static boolean isLetter(int token) {
        return token >= 'a' && token < 'a' + LETTERS;
    }

    // ---- far and nearest

    private void findFars() {
        distances.findLengths();
        for (int i = 0; i < told.sayers; i++) {
            distances.findFars(told.says[i], fars[i]);
        }
    }

    private long burdenOf(int i, int world) {
        return told.weights[i] * fars[i][world];
    }

    /** Those of the WORLDS among that have the least number. */
    private static long least(long among, long[] numbers) {
        long best = Long.MAX_VALUE;
        long found = 0;
        for (int world = 0; world < WORLDS; world++) {
            if (isIn(among, world) && numbers[world] <= best) {
                if (numbers[world] < best) {
                    best = numbers[world];
                    found = 0;
                }
                found |= 1L << world;
            }
        }
        return found;
    }

    private static boolean isIn(long worlds, int world) {
        return (worlds >>> world & 1) != 0;
    }

    /** For each WORLD of from the nearest ones among, all together. */
    private long goneAlong(long from, long among) {
        long found = 0;
        for (int start = 0; start < WORLDS; start++) {
            if (isIn(from, start)) {
                for (int world = 0; world < WORLDS; world++) {
                    scale[world] = distances.lengths[start ^ world];
                }
                found |= least(among, scale);
            }
        }
        return found;
    }

    // ---- merging

    private long mergedBy(int way) {
        for (int world = 0; world < WORLDS; world++) {
            scale[world] = weighed(way, world, NOBODY);
        }
        return least(told.there, scale);
    }

    /** What the WAY compares: the BURDENS of a WORLD by all SAYERS but one, put together. */
    private long weighed(int way, int world, int leftOut) {
        long together = 0;
        for (int i = 0; i < told.sayers; i++) {
            if (i != leftOut) {
                together = joined(way, together, burdenOf(i, world));
            }
        }
        return together;
    }

    private static long joined(int way, long together, long burden) {
        if (way == BY_SUM) {
            return together + burden;
        }
        if (way == BY_WORST) {
            return Math.max(together, burden);
        }
        return putIntoRow(together, burden);
    }

    /**
     * A row of BURDENS is one number with the greatest in its highest bits, so that rows compare as numbers.
     * Empty places at the end are 0: every WORLD has as many BURDENS, so they make no difference.
     */
    private static long putIntoRow(long row, long burden) {
        long moving = burden;
        for (int shift = ROW_TOP; shift >= 0 && moving > 0; shift -= ROW_BITS) {
            long placed = row >>> shift & ROW_MASK;
            if (moving > placed) {
                row += (moving - placed) << shift;
                moving = placed;
            }
        }
        return row;
    }

    // ---- lies

    /** The greatest FAR of the WORLDS from what the SAYER truly says. */
    private long lossOf(int i, long worlds) {
        long loss = 0;
        for (int world = 0; world < WORLDS; world++) {
            if (isIn(worlds, world)) {
                loss = Math.max(loss, fars[i][world]);
            }
        }
        return loss;
    }

    private int bestLie(int i, int way, long trueLoss, boolean tellLoss) {
        for (int world = 0; world < WORLDS; world++) {
            others[world] = weighed(way, world, i);
        }
        long leastLoss = trueLoss;
        int best = NONE;
        int terms = WORLDS * WORLDS;
        // No LOSS is less than 0, so nothing after the first 0 can be better.
        for (int term = 0; term < terms && leastLoss > 0; term++) {
            int so = term / WORLDS;
            int notSo = term % WORLDS;
            if ((so & notSo) == 0) {
                long loss = lossOf(i, mergedWithTerm(told.weights[i], way, so, notSo));
                if (loss < leastLoss) {
                    leastLoss = loss;
                    best = term;
                }
            }
        }
        return tellLoss && best != NONE ? (int) leastLoss : best;
    }

    /** MERGED of the others with one who says the TERM. */
    private long mergedWithTerm(int weight, int way, int so, int notSo) {
        for (int world = 0; world < WORLDS; world++) {
            // The nearest WORLD with a TERM differs in just those of its LETTERS that are wrong.
            int wrong = (so & ~world) | (notSo & world);
            scale[world] = joined(way, others[world], weight * distances.lengths[wrong]);
        }
        return least(told.there, scale);
    }

    // ---- sets of sayers

    private int setsOfSayers() {
        return 1 << told.sayers;
    }

    private void findCommon() {
        common[0] = told.there;
        for (int set = 1; set < setsOfSayers(); set++) {
            int one = Integer.numberOfTrailingZeros(set);
            common[set] = common[set & ~(1 << one)] & told.says[one];
        }
    }

    private boolean isQuarrel(int set) {
        return common[set] == 0;
    }

    private boolean isListed(int what, int set) {
        return what == 0 ? isLeastQuarrel(set) : isGreatestAgreed(set);
    }

    /** Whoever joins a quarrel, it stays one: so looking at sets with one SAYER less is enough. */
    private boolean isLeastQuarrel(int set) {
        if (!isQuarrel(set)) {
            return false;
        }
        for (int i = 0; i < told.sayers; i++) {
            if ((set & 1 << i) != 0 && isQuarrel(set & ~(1 << i))) {
                return false;
            }
        }
        return true;
    }

    private boolean isGreatestAgreed(int set) {
        if (isQuarrel(set)) {
            return false;
        }
        for (int i = 0; i < told.sayers; i++) {
            if ((set & 1 << i) == 0 && !isQuarrel(set | 1 << i)) {
                return false;
            }
        }
        return true;
    }

    /** In how many orders those who came quarrel from this SAYER's coming on. */
    private int ordersTurnedBy(int i) {
        int orders = 0;
        for (int ahead = 0; ahead < setsOfSayers(); ahead++) {
            if ((ahead & 1 << i) == 0 && !isQuarrel(ahead) && isQuarrel(ahead | 1 << i)) {
                int came = Integer.bitCount(ahead);
                orders += ORDERS[came] * ORDERS[told.sayers - 1 - came];
            }
        }
        return orders;
    }

    private static int commonDivisor(int one, int other) {
        int a = one;
        int b = other;
        // Euclid's steps for numbers up to 5040 are far fewer than 64.
        for (int step = 0; step < 64 && b != 0; step++) {
            int rest = a % b;
            a = b;
            b = rest;
        }
        return a;
    }

    // ---- kinds

    private int sayerWorth(int i) {
        traced += 1;
        return Long.bitCount(told.there & told.says[i]);
    }

    private int weightyWorth(int i) {
        traced += 10;
        return sayerWorth(i) * told.weights[i];
    }

    private int loneWorth(int i) {
        traced += 100;
        return sayerWorth(i) - Long.bitCount(told.there & told.says[i] & told.saidByOthers(i));
    }

    private int firmWorth(int i) {
        traced += 1000;
        return weightyWorth(i) + Long.bitCount(mergedBy(BY_SUM));
    }

    /** Laws and SAYERS, as one text tells them. */
    private static final class Told {
        private int laws;
        private long there;
        private int sayers;
        private final long[] says;
        private final int[] weights;

        Told() {
            laws = 0;
            there = ALL_WORLDS;
            sayers = 0;
            says = new long[MAX_SAYERS];
            weights = new int[MAX_SAYERS];
        }

        void empty() {
            laws = 0;
            there = ALL_WORLDS;
            sayers = 0;
        }

        void addLaw(long so) {
            laws++;
            there &= so;
        }

        void addSayer(int weight, long so) {
            if (sayers < MAX_SAYERS) {
                weights[sayers] = weight;
                says[sayers] = so;
                sayers++;
            }
        }

        int allWeights() {
            int sum = 0;
            for (int i = 0; i < sayers; i++) {
                sum += weights[i];
            }
            return sum;
        }

        long saidByOthers(int one) {
            long said = 0;
            for (int i = 0; i < sayers; i++) {
                if (i != one) {
                    said |= says[i];
                }
            }
            return said;
        }
    }

    /** COSTS and MEASURE, and how far they put WORLDS from one another. */
    private static final class Distances {
        private final int[] costs;
        /** MEASURE 1: all WORLDS that differ are alike far. */
        private boolean alike;
        /** FAR of two WORLDS by the set of LETTERS in which they differ. */
        private final int[] lengths;

        Distances() {
            costs = new int[LETTERS];
            Arrays.fill(costs, 1);
            alike = false;
            lengths = new int[WORLDS];
            for (int set = 0; set < WORLDS; set++) {
                lengths[set] = Integer.bitCount(set);
            }
        }

        void findLengths() {
            lengths[0] = 0;
            for (int set = 1; set < WORLDS; set++) {
                int letter = Integer.numberOfTrailingZeros(set);
                lengths[set] = alike ? 1 : lengths[set & ~(1 << letter)] + costs[letter];
            }
        }

        /** FAR of each WORLD from a SAYING. */
        void findFars(long so, long[] row) {
            if (so == 0) {
                Arrays.fill(row, 0L);
                return;
            }
            long outside = alike ? 1 : UNREACHED;
            for (int world = 0; world < WORLDS; world++) {
                row[world] = isIn(so, world) ? 0 : outside;
            }
            if (!alike) {
                for (int letter = 0; letter < LETTERS; letter++) {
                    spread(row, 1 << letter, costs[letter]);
                }
            }
        }

        /** COSTS are added letter by letter, so the least sum is found by changing one LETTER after another. */
        private static void spread(long[] row, int bit, int cost) {
            for (int world = 0; world < WORLDS; world++) {
                row[world] = Math.min(row[world], row[world ^ bit] + cost);
            }
        }
    }

    /** THE TEXT: its bytes, and the TOKENS found in them. */
    private static final class Text {
        private final int[] bytes;
        private int length;
        /** A TOKEN of one byte is that byte; LAW, SAY, END and NO_TOKEN stand beyond all bytes. */
        private final int[] tokens;
        private final int[] places;

        Text() {
            bytes = new int[MAX_BYTES];
            length = 0;
            tokens = new int[MAX_BYTES + 1];
            places = new int[MAX_BYTES + 1];
        }

        void append(int b) {
            if (length < MAX_BYTES) {
                bytes[length] = b;
                length++;
            }
        }

        void findTokens() {
            int found = 0;
            for (int at = 0; at < length; at++) {
                if (beginsToken(at)) {
                    tokens[found] = tokenAt(at);
                    places[found] = at;
                    found++;
                }
            }
            tokens[found] = END;
            places[found] = length;
        }

        private boolean beginsToken(int at) {
            if (!isSmall(at)) {
                return bytes[at] != ' ';
            }
            return !isSmall(at - 1);
        }

        private int tokenAt(int at) {
            if (isSmall(at)) {
                return wordAt(at);
            }
            return isSign(bytes[at]) ? bytes[at] : NO_TOKEN;
        }

        private int wordAt(int at) {
            int size = 1;
            while (at + size < length && isSmall(at + size)) {
                size++;
            }
            if (size == 1) {
                return isLetter(bytes[at]) ? bytes[at] : NO_TOKEN;
            }
            if (size != 3 || bytes[at + 1] != 'a') {
                return NO_TOKEN;
            }
            if (bytes[at] == 'l' && bytes[at + 2] == 'w') {
                return LAW;
            }
            return bytes[at] == 's' && bytes[at + 2] == 'y' ? SAY : NO_TOKEN;
        }

        private boolean isSmall(int at) {
            return at >= 0 && at < length && bytes[at] >= 'a' && bytes[at] <= 'z';
        }

        private static boolean isSign(int b) {
            return (b >= '0' && b <= '9')
                || b == ';' || b == '|' || b == '&' || b == '!' || b == '(' || b == ')';
        }
    }

    /** Reads the TOKENS of THE TEXT one by one, up to the first fault. */
    private static final class Reader {
        private final Text text;
        private int at;
        private int token;
        private int fault;

        Reader(Text text) {
            this.text = text;
            at = 0;
            token = END;
            fault = NO_FAULT;
        }

        boolean isFaulty() {
            return fault != NO_FAULT;
        }

        void readItems(Told to) {
            to.empty();
            begin();
            // Every item takes a byte at least.
            for (int k = 0; k < MAX_BYTES && !isFaulty() && token != END; k++) {
                readItem(to);
            }
        }

        long readQuestion() {
            begin();
            long so = readSaying(0);
            expect(END);
            return so;
        }

        private void readItem(Told to) {
            if (token == LAW && to.laws < MAX_LAWS) {
                advance();
                to.addLaw(readSaying(0));
                expect(';');
            } else if (token == SAY && to.sayers < MAX_SAYERS) {
                advance();
                int weight = readWeight();
                to.addSayer(weight, readSaying(0));
                expect(';');
            } else {
                fail();
            }
        }

        private int readWeight() {
            int weight = token - '0';
            if (weight < 1 || weight > 9) {
                fail();
                return 0;
            }
            advance();
            return weight;
        }

        private long readSaying(int open) {
            long so = readBoth(open);
            for (int k = 0; k < MAX_BYTES && !isFaulty() && token == '|'; k++) {
                advance();
                so |= readBoth(open);
            }
            return so;
        }

        private long readBoth(int open) {
            long so = readOne(open);
            for (int k = 0; k < MAX_BYTES && !isFaulty() && token == '&'; k++) {
                advance();
                so &= readOne(open);
            }
            return so;
        }

        private long readOne(int open) {
            int first = token;
            if (isFaulty() || !beginsOne(first, open)) {
                fail();
                return 0;
            }
            advance();
            if (first == '!') {
                return ~readOne(open + 1);
            }
            if (first == '(') {
                long so = readSaying(open + 1);
                expect(')');
                return so;
            }
            if (isLetter(first)) {
                return LETTER_SO[first - 'a'];
            }
            return first == '1' ? ALL_WORLDS : 0;
        }

        private static boolean beginsOne(int first, int open) {
            if (first == '!' || first == '(') {
                return open < MAX_OPEN;
            }
            return first == '0' || first == '1' || isLetter(first);
        }

        private void expect(int due) {
            if (isFaulty() || token != due) {
                fail();
            } else {
                advance();
            }
        }

        /** The first fault stays. */
        private void fail() {
            if (fault == NO_FAULT) {
                fault = text.places[at];
            }
        }

        private void begin() {
            text.findTokens();
            at = 0;
            token = text.tokens[0];
            fault = NO_FAULT;
        }

        private void advance() {
            if (token != END && at < MAX_BYTES) {
                at++;
                token = text.tokens[at];
            }
        }
    }
}
