/**
 * Roads with trials, pilgrims who walk them, and what can be foretold of them.
 * The numbered promises of the document say what each call answers.
 */
public final class CountedTrials {
    public static final int NONE = -1, UNKNOWN = -101, OUTSIDE = -102, STATE = -103, FULL = -104;

    private static final int PLACES = 6;
    private static final int GOAL = 5;
    private static final int MAX_ROADS = 8;
    private static final int MAX_PILGRIMS = 4;
    private static final int MAX_HURT = 99;
    private static final int MAX_LOG = 7;
    private static final int MAX_NEED = 60;
    private static final int MAX_MONTHS = 60;
    private static final int MAX_HARM_OF_MOST = 60;
    private static final int MAX_FORESIGHTS = 24;
    private static final int FIRST_KNOWN = 10;

    private final Page page = new Page();
    private final World world = new World();
    private final World kept = new World();
    private final World dream = new World();
    private final Search search = new Search();
    private final Rows rows = new Rows();
    private boolean isKept = false;
    private int readings = 0;
    private int foresights = 0;

    public CountedTrials() {
    }

    // ---- roads

    public int letter(int code) {
        if (code < 1 || code > 126) {
            return OUTSIDE;
        }
        return page.append(code) ? page.size : FULL;
    }

    public int blank() {
        int had = page.size;
        page.size = 0;
        return had;
    }

    public int fault() {
        return page.firstWrong();
    }

    public int roads() {
        if (!page.isWhole()) {
            return STATE;
        }
        world.startAnew();
        page.layRoads(world);
        page.size = 0;
        isKept = false;
        readings++;
        rows.outdate();
        return world.roadCount;
    }

    public int road(int road, int what) {
        if (!isRoad(road)) {
            return UNKNOWN;
        }
        Road r = world.roads[road];
        switch (what) {
            case 0: return r.kind;
            case 1: return r.oneEnd;
            case 2: return r.otherEnd;
            case 3: return r.harm;
            case 4: return r.worth();
            case 5: return asNumber(r.licensed);
            default: return OUTSIDE;
        }
    }

    public int as(int road, int kind) {
        if (!isRoad(road)) {
            return UNKNOWN;
        }
        if (kind < Road.TRIAL || kind > Road.DEMON) {
            return OUTSIDE;
        }
        return world.roads[road].isOfKind(kind) ? road : NONE;
    }

    public int worsen(int road, int v) {
        if (!isRoad(road)) {
            return UNKNOWN;
        }
        if (v < 1 || v > 9) {
            return OUTSIDE;
        }
        int was = world.roads[road].harm;
        world.roads[road].harm = v;
        return was;
    }

    public int licence(int road, boolean is) {
        if (!isRoad(road)) {
            return UNKNOWN;
        }
        int was = asNumber(world.roads[road].licensed);
        world.roads[road].licensed = is;
        rows.outdate();
        return was;
    }

    // ---- pilgrims

    public int pilgrim() {
        if (world.roadCount == 0) {
            return STATE;
        }
        if (world.pilgrimCount >= MAX_PILGRIMS) {
            return FULL;
        }
        int number = world.pilgrimCount;
        world.pilgrims[number].startAnew();
        world.pilgrimCount++;
        return number;
    }

    public int about(int pilgrim, int what) {
        if (!isPilgrim(pilgrim)) {
            return UNKNOWN;
        }
        Pilgrim p = world.pilgrims[pilgrim];
        if (what >= FIRST_KNOWN && what < FIRST_KNOWN + MAX_ROADS) {
            return p.known[what - FIRST_KNOWN];
        }
        switch (what) {
            case 0: return p.place;
            case 1: return p.hurt;
            case 2: return p.counted;
            case 3: return asNumber(p.letIn);
            case 4: return p.walked;
            default: return OUTSIDE;
        }
    }

    public int walk(int pilgrim, int road) {
        if (!isPilgrim(pilgrim) || !isRoad(road)) {
            return UNKNOWN;
        }
        Pilgrim p = world.pilgrims[pilgrim];
        Road r = world.roads[road];
        if (!p.may(r, r.harm)) {
            return STATE;
        }
        p.go(r, r.harm, r.worth());
        world.months++;
        return p.place;
    }

    public int together(int a, int b, int road) {
        if (!isPilgrim(a) || !isPilgrim(b) || a == b || !isRoad(road)) {
            return UNKNOWN;
        }
        Pilgrim first = world.pilgrims[a];
        Pilgrim second = world.pilgrims[b];
        Road r = world.roads[road];
        int share = (r.harm + 1) / 2;
        if (first.place != second.place || !first.may(r, share) || !second.may(r, share)) {
            return STATE;
        }
        first.go(r, share, r.worth());
        second.go(r, share, r.worth() / 2);
        world.months++;
        return first.place;
    }

    public int rest(int pilgrim) {
        if (!isPilgrim(pilgrim)) {
            return UNKNOWN;
        }
        Pilgrim p = world.pilgrims[pilgrim];
        if (p.letIn) {
            return STATE;
        }
        p.recover();
        world.months++;
        return p.hurt;
    }

    public int enter(int pilgrim) {
        if (!isPilgrim(pilgrim)) {
            return UNKNOWN;
        }
        Pilgrim p = world.pilgrims[pilgrim];
        if (p.letIn || p.place != GOAL) {
            return STATE;
        }
        p.ask(world.need);
        return world.need - p.counted;
    }

    // ---- what would be

    public int way(int pilgrim, int what) {
        if (!isPilgrim(pilgrim)) {
            return UNKNOWN;
        }
        if (what < 0 || what > 2) {
            return OUTSIDE;
        }
        if (!mayForesee(pilgrim)) {
            return STATE;
        }
        foresights++;
        int cost = search.leastWay(world, world.pilgrims[pilgrim], NONE);
        if (cost == Search.FAR) {
            return NONE;
        }
        switch (what) {
            case 0: return Search.harmOf(cost);
            case 1: return Search.walksOf(cost);
            default: return Search.firstOf(cost);
        }
    }

    public int bars(int pilgrim) {
        if (!isPilgrim(pilgrim)) {
            return UNKNOWN;
        }
        if (!mayForesee(pilgrim)) {
            return STATE;
        }
        foresights++;
        return search.leastBar(world, world.pilgrims[pilgrim]);
    }

    public int most(int pilgrim, int harm) {
        if (!isPilgrim(pilgrim)) {
            return UNKNOWN;
        }
        if (harm < 0 || harm > MAX_HARM_OF_MOST) {
            return OUTSIDE;
        }
        if (!mayForesee(pilgrim)) {
            return STATE;
        }
        foresights++;
        return search.mostCounted(world, world.pilgrims[pilgrim], harm);
    }

    public int bridge(int pilgrim) {
        if (!isPilgrim(pilgrim)) {
            return UNKNOWN;
        }
        if (!mayForesee(pilgrim)) {
            return STATE;
        }
        foresights++;
        return search.bestBridge(world, world.pilgrims[pilgrim]);
    }

    // ---- a log

    public int log(int place) {
        if (place != NONE && (place < 0 || place >= PLACES)) {
            return UNKNOWN;
        }
        if (world.logSize >= MAX_LOG) {
            return FULL;
        }
        world.log[world.logSize] = place;
        world.logSize++;
        rows.outdate();
        return world.logSize;
    }

    public int forget() {
        int had = world.logSize;
        world.logSize = 0;
        rows.outdate();
        return had;
    }

    public int walks() {
        if (world.roadCount == 0) {
            return STATE;
        }
        rows.tally(world);
        return rows.total;
    }

    public int walksBy(int halves) {
        if (halves < 0 || halves > MAX_NEED) {
            return OUTSIDE;
        }
        if (world.roadCount == 0) {
            return STATE;
        }
        rows.tally(world);
        return rows.byHalves[halves];
    }

    public int last() {
        if (world.roadCount == 0) {
            return STATE;
        }
        rows.tally(world);
        return rows.lastInAll;
    }

    public int months(int months, int seed, int what) {
        if (months < 1 || months > MAX_MONTHS || seed < 0 || what < 0 || what > 3) {
            return OUTSIDE;
        }
        if (world.roadCount == 0) {
            return STATE;
        }
        dream.become(world);
        int seedThen = dream.live(months, seed);
        switch (what) {
            case 0: return dream.letInCount();
            case 1: return dream.hurtOfAll();
            case 2: return dream.countedByAll();
            default: return seedThen;
        }
    }

    // ---- what is told of all

    public int image() {
        if (world.roadCount == 0) {
            return STATE;
        }
        kept.become(world);
        isKept = true;
        return world.months;
    }

    public int restore() {
        if (!isKept) {
            return STATE;
        }
        world.become(kept);
        rows.outdate();
        return world.months;
    }

    public int count(int what) {
        switch (what) {
            case 0: return world.roadCount;
            case 1: return world.need;
            case 2: return world.pilgrimCount;
            case 3: return world.letInCount();
            case 4: return world.months;
            case 5: return world.logSize;
            case 6: return page.size;
            case 7: return readings;
            case 8: return foresights;
            default: return OUTSIDE;
        }
    }

    public long digest() {
        long h = digestOfPilgrims(digestOfRoads(761L));
        if (world.roadCount > 0) {
            h = 31L * h + walks();
            h = 31L * h + walksBy(world.need);
            h = 31L * h + last();
        }
        for (int i = 0; i < page.size && i < Page.LENGTH; i++) {
            h = 31L * h + page.codes[i];
        }
        for (int what = 0; what <= 8; what++) {
            h = 31L * h + count(what);
        }
        return h;
    }

    private long digestOfRoads(long start) {
        long h = start;
        for (int i = 0; i < world.roadCount; i++) {
            for (int what = 0; what <= 5; what++) {
                h = 31L * h + road(i, what);
            }
        }
        return h;
    }

    private long digestOfPilgrims(long start) {
        long h = start;
        for (int i = 0; i < world.pilgrimCount; i++) {
            for (int what = 0; what <= 4; what++) {
                h = 31L * h + about(i, what);
            }
            for (int what = FIRST_KNOWN; what < FIRST_KNOWN + MAX_ROADS; what++) {
                h = 31L * h + about(i, what);
            }
        }
        return h;
    }

    private boolean isRoad(int number) {
        return number >= 0 && number < world.roadCount;
    }

    private boolean isPilgrim(int number) {
        return number >= 0 && number < world.pilgrimCount;
    }

    private boolean mayForesee(int pilgrim) {
        return !world.pilgrims[pilgrim].letIn && foresights < MAX_FORESIGHTS;
    }

    private static int asNumber(boolean is) {
        return is ? 1 : 0;
    }

    /** THE PAGE: letters that may become ROADS. */
    private static final class Page {
        static final int LENGTH = 44;

        // What a letter has to be.
        private static final int WRONG = -1;
        private static final int TENS = 0;
        private static final int ONES = 1;
        private static final int COLON = 2;
        private static final int KIND_OR_ONE_END = 3;
        private static final int ONE_END = 4;
        private static final int OTHER_END = 5;
        private static final int HARM = 6;
        private static final int COMMA = 7;
        private static final int FIRST_ROAD = 3;

        final int[] codes = new int[LENGTH];
        int size = 0;
        // What the letter behind those that firstWrong() has looked at has to be.
        private int slot = TENS;

        boolean append(int code) {
            if (size >= LENGTH) {
                return false;
            }
            codes[size] = code;
            size++;
            return true;
        }

        int firstWrong() {
            int before = 0;
            int ended = 0;
            slot = TENS;
            for (int i = 0; i < size && i < LENGTH; i++) {
                slot = slotBehind(slot, codes[i], before, ended);
                if (slot == WRONG) {
                    return i;
                }
                if (slot == COMMA) {
                    ended++;
                }
                before = codes[i];
            }
            return size;
        }

        // Only behind a HARM does a text without a fault need nothing more.
        boolean isWhole() {
            return firstWrong() == size && slot == COMMA;
        }

        /** Only of a whole page. */
        void layRoads(World world) {
            world.need = (codes[0] - '0') * 10 + codes[1] - '0';
            int at = FIRST_ROAD;
            int laid = 0;
            while (laid < MAX_ROADS && at < size) {
                int kind = kindOf(codes[at]);
                int ends = kind == Road.TRIAL ? at : at + 1;
                if (ends + 2 < LENGTH) {
                    world.roads[laid].lay(kind, codes[ends] - '0', codes[ends + 1] - '0', codes[ends + 2] - '0');
                }
                laid++;
                at = ends + 4;
            }
            world.roadCount = laid;
        }

        private static int slotBehind(int slot, int code, int before, int ended) {
            switch (slot) {
                case TENS: return isDigit(code, 0, 6) ? ONES : WRONG;
                case ONES: return isOnes(before, code) ? COLON : WRONG;
                case COLON: return code == ':' ? KIND_OR_ONE_END : WRONG;
                case KIND_OR_ONE_END:
                    if (kindOf(code) != Road.TRIAL) {
                        return ONE_END;
                    }
                    return isDigit(code, 0, 5) ? OTHER_END : WRONG;
                case ONE_END: return isDigit(code, 0, 5) ? OTHER_END : WRONG;
                case OTHER_END: return isDigit(code, 0, 5) && code != before ? HARM : WRONG;
                case HARM: return isDigit(code, 1, 9) ? COMMA : WRONG;
                default: return code == ',' && ended < MAX_ROADS ? KIND_OR_ONE_END : WRONG;
            }
        }

        private static boolean isOnes(int tens, int code) {
            if (tens == '0') {
                return isDigit(code, 1, 9);
            }
            return isDigit(code, 0, tens == '6' ? 0 : 9);
        }

        private static boolean isDigit(int code, int least, int greatest) {
            return code >= '0' + least && code <= '0' + greatest;
        }

        private static int kindOf(int code) {
            switch (code) {
                case 'f': return Road.FALSE;
                case 'b': return Road.BOUGHT;
                case 'd': return Road.DOUBLE;
                case 'g': return Road.DEMON;
                default: return Road.TRIAL;
            }
        }
    }

    /** A ROAD with its TRIAL. */
    private static final class Road {
        static final int TRIAL = 0;
        static final int FALSE = 1;
        static final int BOUGHT = 2;
        static final int DOUBLE = 3;
        static final int DEMON = 4;

        final int number;
        int kind = TRIAL;
        int oneEnd = 0;
        int otherEnd = 0;
        int harm = 1;
        boolean licensed = true;

        Road(int number) {
            this.number = number;
        }

        void lay(int kind, int oneEnd, int otherEnd, int harm) {
            this.kind = kind;
            this.oneEnd = oneEnd;
            this.otherEnd = otherEnd;
            this.harm = harm;
            this.licensed = true;
        }

        void become(Road other) {
            lay(other.kind, other.oneEnd, other.otherEnd, other.harm);
            licensed = other.licensed;
        }

        int worth() {
            switch (kind) {
                case FALSE: return 0;
                case BOUGHT: return 1;
                case DOUBLE: return 4;
                case DEMON: return licensed ? 4 : 0;
                default: return 2;
            }
        }

        boolean isOfKind(int asked) {
            return asked == TRIAL || asked == kind || asked == DOUBLE && kind == DEMON;
        }

        boolean touches(int place) {
            return place == oneEnd || place == otherEnd;
        }

        int across(int place) {
            return place == oneEnd ? otherEnd : oneEnd;
        }
    }

    /** A PILGRIM. */
    private static final class Pilgrim {
        int place = 0;
        int hurt = 0;
        int counted = 0;
        int walked = 0;
        boolean letIn = false;
        final int[] known = new int[MAX_ROADS];

        void startAnew() {
            place = 0;
            hurt = 0;
            counted = 0;
            walked = 0;
            letIn = false;
            for (int i = 0; i < MAX_ROADS; i++) {
                known[i] = 0;
            }
        }

        void become(Pilgrim other) {
            place = other.place;
            hurt = other.hurt;
            counted = other.counted;
            walked = other.walked;
            letIn = other.letIn;
            for (int i = 0; i < MAX_ROADS; i++) {
                known[i] = other.known[i];
            }
        }

        boolean may(Road road, int harm) {
            return !letIn && road.touches(place) && hurt + harm <= MAX_HURT;
        }

        // By two the harm and the worth are shares, but what is known of a trial
        // is its own harm.
        void go(Road road, int harm, int worth) {
            hurt += harm;
            place = road.across(place);
            walked++;
            if (wouldCount(road)) {
                counted += worth;
                known[road.number] = road.harm;
            }
        }

        boolean wouldCount(Road road) {
            return road.harm > known[road.number];
        }

        void recover() {
            hurt = Math.max(0, hurt - 5);
        }

        void ask(int need) {
            if (place == GOAL && counted == need) {
                letIn = true;
            }
        }
    }

    /** All that an IMAGE keeps, with the ROADS it stands on. */
    private static final class World {
        int need = 0;
        int roadCount = 0;
        int pilgrimCount = 0;
        int months = 0;
        int logSize = 0;
        final int[] log = new int[MAX_LOG];
        final Road[] roads = new Road[MAX_ROADS];
        final Pilgrim[] pilgrims = new Pilgrim[MAX_PILGRIMS];

        World() {
            for (int i = 0; i < MAX_ROADS; i++) {
                roads[i] = new Road(i);
            }
            for (int i = 0; i < MAX_PILGRIMS; i++) {
                pilgrims[i] = new Pilgrim();
            }
        }

        /** Without pilgrims, months and a log, for roads that are to be laid. */
        void startAnew() {
            pilgrimCount = 0;
            months = 0;
            logSize = 0;
        }

        void become(World other) {
            need = other.need;
            roadCount = other.roadCount;
            pilgrimCount = other.pilgrimCount;
            months = other.months;
            logSize = other.logSize;
            for (int i = 0; i < MAX_LOG; i++) {
                log[i] = other.log[i];
            }
            for (int i = 0; i < roadCount; i++) {
                roads[i].become(other.roads[i]);
            }
            for (int i = 0; i < pilgrimCount; i++) {
                pilgrims[i].become(other.pilgrims[i]);
            }
        }

        /** Months by a seed; answers the seed then. */
        int live(int howMany, int seed) {
            int now = seed;
            for (int month = 0; month < howMany; month++) {
                for (int i = 0; i < pilgrimCount; i++) {
                    if (!pilgrims[i].letIn) {
                        now = nextSeed(now);
                        passMonth(pilgrims[i], now);
                    }
                }
            }
            return now;
        }

        private void passMonth(Pilgrim pilgrim, int seed) {
            if (roadCount == 0) {
                return;
            }
            Road road = roads[seed / 65536 % roadCount];
            if (pilgrim.may(road, road.harm)) {
                pilgrim.go(road, road.harm, road.worth());
            } else {
                pilgrim.recover();
            }
            pilgrim.ask(need);
        }

        private static int nextSeed(int seed) {
            return (int) ((1103515245L * seed + 12345L) & 0x7fffffffL);
        }

        int letInCount() {
            int sum = 0;
            for (int i = 0; i < pilgrimCount; i++) {
                sum += pilgrims[i].letIn ? 1 : 0;
            }
            return sum;
        }

        int hurtOfAll() {
            int sum = 0;
            for (int i = 0; i < pilgrimCount; i++) {
                sum += pilgrims[i].hurt;
            }
            return sum;
        }

        int countedByAll() {
            int sum = 0;
            for (int i = 0; i < pilgrimCount; i++) {
                sum += pilgrims[i].counted;
            }
            return sum;
        }
    }

    /**
     * What one can reach alone without resting. While nothing else changes each
     * trial counts once at most, so where he is and which trials have counted
     * (a set of bits) is all that matters. Sets only grow: one pass over them in
     * their order as numbers is enough.
     */
    private static final class Search {
        static final int FAR = 1000000000;

        private static final int BRIDGED_ROADS = MAX_ROADS + 1;
        private static final int MAX_SETS = 1 << BRIDGED_ROADS;
        private static final int ANY_GAIN = 1000000000;

        // A cost is harm, walks and first road in one number, so that the lesser
        // number is the better way. Each walk has harm, so there are 99 at most.
        private static final int HARM_SHIFT = 11;
        private static final int WALKS_SHIFT = 4;
        private static final int WALKS_MASK = 127;
        private static final int FIRST_MASK = 15;

        private final int[] oneEnd = new int[BRIDGED_ROADS];
        private final int[] otherEnd = new int[BRIDGED_ROADS];
        private final int[] harm = new int[BRIDGED_ROADS];
        private final int[] bit = new int[BRIDGED_ROADS];
        private final int[] gain = new int[MAX_SETS];
        private final int[] cost = new int[MAX_SETS * PLACES];
        private int roadCount = 0;
        private int sets = 1;
        private int limit = 0;

        static int harmOf(int cost) {
            return cost >> HARM_SHIFT;
        }

        static int walksOf(int cost) {
            return cost >> WALKS_SHIFT & WALKS_MASK;
        }

        static int firstOf(int cost) {
            return cost == 0 ? NONE : cost & FIRST_MASK;
        }

        /** The cost of the best way without a road (NONE: with all), or FAR. */
        int leastWay(World world, Pilgrim pilgrim, int without) {
            takeRoads(world, pilgrim, without);
            limit = MAX_HURT - pilgrim.hurt;
            return leastCost(pilgrim.place, world.need - pilgrim.counted);
        }

        int leastBar(World world, Pilgrim pilgrim) {
            if (leastWay(world, pilgrim, NONE) == FAR) {
                return NONE;
            }
            for (int i = 0; i < world.roadCount; i++) {
                if (leastWay(world, pilgrim, i) == FAR) {
                    return i;
                }
            }
            return NONE;
        }

        int mostCounted(World world, Pilgrim pilgrim, int mostHarm) {
            takeRoads(world, pilgrim, NONE);
            limit = Math.min(mostHarm, MAX_HURT - pilgrim.hurt);
            spread(pilgrim.place, ANY_GAIN);
            int best = 0;
            for (int set = 0; set < sets; set++) {
                if (gain[set] > best && isReached(set)) {
                    best = gain[set];
                }
            }
            return pilgrim.counted + best;
        }

        int bestBridge(World world, Pilgrim pilgrim) {
            int asIs = leastWay(world, pilgrim, NONE);
            // From here on only what is better than the best so far is looked for.
            if (asIs != FAR) {
                limit = harmOf(asIs) - 1;
            }
            int lacking = world.need - pilgrim.counted;
            int best = NONE;
            int bridge = roadCount;
            addRoad(0, 0, 1, 2);
            for (int lesser = 0; lesser < PLACES; lesser++) {
                for (int greater = lesser + 1; greater < PLACES && limit > 0; greater++) {
                    oneEnd[bridge] = lesser;
                    otherEnd[bridge] = greater;
                    int bridged = leastCost(pilgrim.place, lacking);
                    if (bridged != FAR) {
                        best = PLACES * lesser + greater;
                        limit = harmOf(bridged) - 1;
                    }
                }
            }
            return best;
        }

        private void takeRoads(World world, Pilgrim pilgrim, int without) {
            roadCount = 0;
            sets = 1;
            for (int i = 0; i < world.roadCount; i++) {
                Road road = world.roads[i];
                if (i != without) {
                    addRoad(road.oneEnd, road.otherEnd, road.harm, pilgrim.wouldCount(road) ? road.worth() : 0);
                }
            }
        }

        // A trial that counts nothing needs no bit.
        private void addRoad(int one, int other, int itsHarm, int itsGain) {
            if (roadCount >= BRIDGED_ROADS) {
                return;
            }
            oneEnd[roadCount] = one;
            otherEnd[roadCount] = other;
            harm[roadCount] = itsHarm;
            bit[roadCount] = 0;
            if (itsGain > 0 && sets < MAX_SETS) {
                bit[roadCount] = sets;
                for (int set = 0; set < sets; set++) {
                    gain[sets + set] = gain[set] + itsGain;
                }
                sets += sets;
            }
            roadCount++;
        }

        private int leastCost(int start, int lacking) {
            if (lacking < 0) {
                return FAR;
            }
            spread(start, lacking);
            int best = FAR;
            for (int set = 0; set < sets; set++) {
                if (gain[set] == lacking) {
                    best = Math.min(best, cost[set * PLACES + GOAL]);
                }
            }
            return best;
        }

        private void spread(int start, int mostGain) {
            int states = sets * PLACES;
            for (int i = 0; i < states; i++) {
                cost[i] = FAR;
            }
            cost[start] = 0;
            for (int set = 0; set < sets; set++) {
                if (isReached(set)) {
                    settle(set);
                    leave(set, mostGain);
                }
            }
        }

        private boolean isReached(int set) {
            int base = set * PLACES;
            for (int place = 0; place < PLACES; place++) {
                if (cost[base + place] != FAR) {
                    return true;
                }
            }
            return false;
        }

        // Over roads that count nothing now: no best row of them meets a place
        // twice, so as many rounds as there are places are enough.
        private void settle(int set) {
            int base = set * PLACES;
            boolean changed = true;
            for (int round = 0; round < PLACES && changed; round++) {
                changed = false;
                for (int i = 0; i < roadCount; i++) {
                    if ((bit[i] & ~set) == 0) {
                        changed |= improve(i, base + oneEnd[i], base + otherEnd[i]);
                        changed |= improve(i, base + otherEnd[i], base + oneEnd[i]);
                    }
                }
            }
        }

        private void leave(int set, int mostGain) {
            int base = set * PLACES;
            for (int i = 0; i < roadCount; i++) {
                if ((bit[i] & ~set) != 0 && gain[set | bit[i]] <= mostGain) {
                    int then = (set | bit[i]) * PLACES;
                    improve(i, base + oneEnd[i], then + otherEnd[i]);
                    improve(i, base + otherEnd[i], then + oneEnd[i]);
                }
            }
        }

        private boolean improve(int road, int here, int there) {
            if (cost[here] == FAR) {
                return false;
            }
            int first = cost[here] == 0 ? road : 0;
            int by = cost[here] + (harm[road] << HARM_SHIFT) + (1 << WALKS_SHIFT) + first;
            if (by >= cost[there] || by >> HARM_SHIFT > limit) {
                return false;
            }
            cost[there] = by;
            return true;
        }
    }

    /**
     * In how many rows of roads the LOG can have been, counted month by month for
     * each place and set of trials (bits) that have counted a half.
     */
    private static final class Rows {
        private static final int STATES = (1 << MAX_ROADS) * PLACES;
        private static final int NO_ROAD = 1 << MAX_ROADS;

        int total = 0;
        int lastInAll = NONE;
        final int[] byHalves = new int[MAX_NEED + 1];

        private final int[] bit = new int[MAX_ROADS];
        private int[] ways = new int[STATES];
        private int[] waysThen = new int[STATES];
        // By which roads a half can have been counted last there, as bits.
        private int[] lasts = new int[STATES];
        private int[] lastsThen = new int[STATES];
        private int sets = 1;
        private boolean isTallied = false;

        /** The LOG, the ROADS or what they are worth are others now. */
        void outdate() {
            isTallied = false;
        }

        void tally(World world) {
            if (isTallied) {
                return;
            }
            giveBits(world);
            clearThen();
            waysThen[0] = 1;
            lastsThen[0] = NO_ROAD;
            swap();
            for (int month = 0; month < world.logSize; month++) {
                clearThen();
                passMonth(world, world.log[month]);
                swap();
            }
            sumUp(world);
            isTallied = true;
        }

        private void giveBits(World world) {
            sets = 1;
            for (int i = 0; i < world.roadCount; i++) {
                bit[i] = 0;
                if (world.roads[i].worth() > 0) {
                    bit[i] = sets;
                    sets += sets;
                }
            }
        }

        private void clearThen() {
            int states = sets * PLACES;
            for (int i = 0; i < states; i++) {
                waysThen[i] = 0;
                lastsThen[i] = 0;
            }
        }

        private void swap() {
            int[] oldWays = ways;
            int[] oldLasts = lasts;
            ways = waysThen;
            lasts = lastsThen;
            waysThen = oldWays;
            lastsThen = oldLasts;
        }

        private void passMonth(World world, int told) {
            for (int set = 0; set < sets; set++) {
                for (int place = 0; place < PLACES; place++) {
                    if (ways[set * PLACES + place] > 0) {
                        goOn(world, set, place, told);
                    }
                }
            }
        }

        private void goOn(World world, int set, int place, int told) {
            int here = set * PLACES + place;
            for (int i = 0; i < world.roadCount; i++) {
                Road road = world.roads[i];
                int beyond = road.across(place);
                if (road.touches(place) && (told == NONE || told == beyond)) {
                    boolean counts = (bit[i] & ~set) != 0;
                    int there = (set | bit[i]) * PLACES + beyond;
                    waysThen[there] += ways[here];
                    lastsThen[there] |= counts ? 1 << i : lasts[here];
                }
            }
        }

        private void sumUp(World world) {
            total = 0;
            for (int halves = 0; halves <= MAX_NEED; halves++) {
                byHalves[halves] = 0;
            }
            int allLasts = 0;
            for (int set = 0; set < sets; set++) {
                int halves = halvesOf(world, set);
                for (int place = 0; place < PLACES; place++) {
                    int here = set * PLACES + place;
                    total += ways[here];
                    allLasts |= lasts[here];
                    if (halves <= MAX_NEED) {
                        byHalves[halves] += ways[here];
                    }
                }
            }
            lastInAll = onlyRoad(allLasts);
        }

        private int halvesOf(World world, int set) {
            int sum = 0;
            for (int i = 0; i < world.roadCount; i++) {
                if ((set & bit[i]) != 0) {
                    sum += world.roads[i].worth();
                }
            }
            return sum;
        }

        private static int onlyRoad(int roadBits) {
            for (int i = 0; i < MAX_ROADS; i++) {
                if (roadBits == 1 << i) {
                    return i;
                }
            }
            return NONE;
        }
    }
}
