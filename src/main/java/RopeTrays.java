/** A dumb waiter of two trays on one rope; ../shared/DOC.md says what each call answers. */
public final class RopeTrays {
    public static final int BAD = -1, STATE = -2, FULL = -3, NONE = -9;
    public static final int NO = -1000000;

    private static final int MOST_LETTERS = 100, MOST_LETTER = 255, MOST_NUMBER = 99;
    private static final int LEAST_FLOORS = 3, FIRST_FLOORS = 5, MOST_FLOORS = 7;
    private static final int LEAST_ROOM = 1, FIRST_ROOM = 2, MOST_ROOM = 3;
    private static final int FIRST_STRONG = 9, MOST_STRONG = 30;
    private static final int MOST_THINGS = 4, LEAST_WEIGHT = 1, MOST_WEIGHT = 9;
    private static final int MOST_PULLS = 999, MOST_KNOWN = 10, MOST_SEEN = 6, MOST_AGAINST = 40;
    private static final int IMAGES = 2, KINDS = 6, TRAYS = 2, WAYS = 2, SHARES = 3;
    private static final int TENTHS = 10, MOST_N = 20;

    /** Where a thing is; ON a tray is the tray's number and 1. */
    private static final int LIES = 0, ON = 1, HOME = 3;
    /** A pack has the places of all things, two bits for each. */
    private static final int PACK_BITS = 2 * MOST_THINGS, PACKS = 1 << PACK_BITS, PACK_MASK = PACKS - 1;
    /** Both ways, or way 0 alone, as bits. */
    private static final int EITHER_WAY = 3, WAY_0 = 1;
    /** No plan has more pulls than there are states. */
    private static final int MOST_STATES = MOST_FLOORS * PACKS;

    private static final int BLANK = 32, FAULT_BASE = -10;
    /** Tokens that are no letter; a token that is one is that letter. */
    private static final int END = -1, WRONG = -2, NUMBER = -3, NO_ITEM = -4;

    private final Text text = new Text();
    private final House told = new House();
    private final Places places = new Places();
    private final Places[] before = new Places[MOST_KNOWN];
    private int newest = 0;
    private int known = 0;
    private final Places[] images = new Places[IMAGES];
    private final boolean[] kept = new boolean[IMAGES];
    private final Search search = new Search();
    private final Scale scale = new Scale();
    private final Waiter[] kinds = new Waiter[KINDS];
    private long traced = 0;

    public RopeTrays() {
        for (int i = 0; i < MOST_KNOWN; i++) {
            before[i] = new Places();
        }
        for (int i = 0; i < IMAGES; i++) {
            images[i] = new Places();
        }
        kinds[0] = new Waiter();
        kinds[1] = new Butler();
        kinds[2] = new Cook();
        kinds[3] = new Lord();
        kinds[4] = new Maid();
        kinds[5] = new Boy();
    }

    // ---- the house

    public int type(int letter) {
        if (letter < 0 || letter > MOST_LETTER) {
            return BAD;
        }
        return text.add(letter) ? text.length : FULL;
    }

    public int clear() {
        return text.empty();
    }

    public int house() {
        int items = text.read();
        if (items < 0) {
            return items;
        }
        told.copy(text.draft);
        text.empty();
        places.begin(told);
        known = 0;
        for (int i = 0; i < IMAGES; i++) {
            kept[i] = false;
        }
        scale.empty();
        return items;
    }

    public int thing(int t, int what) {
        if (!told.hasThing(t)) {
            return BAD;
        }
        int place = placeOf(places.pack, t);
        switch (what) {
            case 0: return told.from[t];
            case 1: return told.to[t];
            case 2: return told.weight[t];
            case 3: return place;
            case 4: return place == LIES ? places.lies[t] : NONE;
            default: return BAD;
        }
    }

    public int tray(int tray, int what) {
        if (!isTray(tray)) {
            return BAD;
        }
        switch (what) {
            case 0: return told.floorOfTray(tray, places.floor);
            case 1: return told.thingsAt(places.pack, ON + tray);
            case 2: return told.weightAt(places.pack, ON + tray);
            default: return BAD;
        }
    }

    public int now(int what) {
        switch (what) {
            case 0: return places.pulled;
            case 1: return told.thingsAt(places.pack, HOME);
            case 2: return told.thingsAt(places.pack, LIES);
            case 3: return (canPullNow(0) ? 1 : 0) | (canPullNow(1) ? 2 : 0);
            case 4: return known;
            default: return BAD;
        }
    }

    // ---- what is done

    public int puts(int t, int tray) {
        if (!told.hasThing(t) || !isTray(tray)) {
            return BAD;
        }
        if (placeOf(places.pack, t) != LIES || places.lies[t] != told.floorOfTray(tray, places.floor)) {
            return STATE;
        }
        if (!told.hasRoom(places.pack, tray)) {
            return FULL;
        }
        remember();
        places.pack = moved(places.pack, t, ON + tray);
        return told.weightAt(places.pack, ON + tray);
    }

    public int takes(int t) {
        if (!told.hasThing(t)) {
            return BAD;
        }
        int place = placeOf(places.pack, t);
        if (place == LIES || place == HOME) {
            return STATE;
        }
        remember();
        int floor = told.floorOfTray(place - ON, places.floor);
        boolean home = floor == told.to[t];
        places.pack = moved(places.pack, t, home ? HOME : LIES);
        places.lies[t] = floor;
        return home ? 1 : 0;
    }

    public int pulls(int way) {
        if (way < 0 || way >= WAYS) {
            return BAD;
        }
        if (!canPullNow(way)) {
            return STATE;
        }
        remember();
        places.floor = floorBehind(places.floor, way);
        places.pulled++;
        return places.floor;
    }

    public int undo() {
        if (known <= 0) {
            return STATE;
        }
        places.copy(before[newest]);
        newest = (newest + MOST_KNOWN - 1) % MOST_KNOWN;
        known--;
        return known;
    }

    // ---- what is best

    public int plan(int set, int what) {
        if (set < 0 || set >= 1 << told.things || what < 0 || what > 1) {
            return BAD;
        }
        int fewest = search.fewest(told, places, set, EITHER_WAY, MOST_STATES);
        if (what == 0) {
            return fewest;
        }
        if (fewest <= 0) {
            return NONE;
        }
        return search.fewest(told, places, set, WAY_0, fewest) == fewest ? 0 : 1;
    }

    public int even(int floor, int t) {
        if (!told.hasFloor(floor) || t != -1 && !told.hasThing(t)) {
            return BAD;
        }
        int there = thingsOn(floor);
        if (t != -1 && (there >> t & 1) == 0) {
            return NONE;
        }
        int pack = evenest(there);
        return t == -1 ? told.unevenness(pack) : placeOf(pack, t);
    }

    public int odds(int x, int n, int what) {
        if (x < 0 || x > TENTHS || n < 0 || n > MOST_N || what < 0 || what > 1) {
            return BAD;
        }
        int open = told.thingsAt(places.pack, LIES) | told.thingsAt(places.pack, ON) | told.thingsAt(places.pack, ON + 1);
        int upper = 0;
        for (int wanted = 0; wanted <= open; wanted++) {
            int chances = chancesOf(x, wanted, open);
            if (chances > 0 && search.fewest(told, places, wanted, EITHER_WAY, n) != NONE) {
                upper += chances;
            }
        }
        int lower = power(TENTHS, Integer.bitCount(open));
        int divisor = greatestDivisor(upper, lower);
        if (divisor <= 0) {
            return BAD;
        }
        return (what == 0 ? upper : lower) / divisor;
    }

    // ---- how heavy

    public int sees(int v, int went) {
        if (v < 0 || v > MOST_AGAINST || went < 0 || went > 1) {
            return BAD;
        }
        return scale.add(v, went == 1) ? scale.seen : FULL;
    }

    public int forget() {
        return scale.empty();
    }

    public int weights(int what) {
        switch (what) {
            case 0: return scale.howMany(told.strong);
            case 1: return scale.least(told.strong);
            case 2: return scale.greatest(told.strong);
            default: return BAD;
        }
    }

    public int next() {
        return scale.bestAgainst(told.strong);
    }

    // ---- kinds, images

    public int rate(int kind, int t) {
        if (kind < 0 || kind >= KINDS || !told.hasThing(t)) {
            return NO;
        }
        return kinds[kind].worth(this, t);
    }

    public int keep(int image) {
        if (image < 0 || image >= IMAGES) {
            return BAD;
        }
        images[image].copy(places);
        kept[image] = true;
        return places.pulled;
    }

    public int back(int image) {
        if (image < 0 || image >= IMAGES) {
            return BAD;
        }
        if (!kept[image]) {
            return STATE;
        }
        places.copy(images[image]);
        known = 0;
        return places.pulled;
    }

    public int count(int what) {
        switch (what) {
            case 0: return told.floors;
            case 1: return told.room;
            case 2: return told.strong;
            case 3: return told.things;
            case 4: return scale.seen;
            case 5: return text.length;
            default: return BAD;
        }
    }

    public long trace() {
        return traced;
    }

    // ---- helpers of the calls

    private static boolean isTray(int tray) {
        return tray >= 0 && tray < TRAYS;
    }

    private static int placeOf(int pack, int t) {
        return pack >> 2 * t & 3;
    }

    private static int moved(int pack, int t, int place) {
        return pack & ~(3 << 2 * t) | place << 2 * t;
    }

    private static int floorBehind(int floor, int way) {
        return way == 0 ? floor + 1 : floor - 1;
    }

    private boolean canPullNow(int way) {
        return places.pulled < MOST_PULLS && told.canPull(places.floor, places.pack, way);
    }

    /** The oldest is overwritten when all are in use: just the latest are to be known. */
    private void remember() {
        newest = (newest + 1) % MOST_KNOWN;
        before[newest].copy(places);
        known = Math.min(known + 1, MOST_KNOWN);
    }

    private int thingsOn(int floor) {
        int there = 0;
        for (int t = 0; t < told.things; t++) {
            if (placeOf(places.pack, t) == LIES && places.lies[t] == floor) {
                there |= 1 << t;
            }
        }
        return there;
    }

    /** Ways are tried in the order that the document tells, so the first of equals stays. */
    private int evenest(int there) {
        int best = places.pack;
        int bestLeft = MOST_THINGS + 1;
        int bestBy = 0;
        int ways = power(SHARES, MOST_THINGS);
        for (int way = 0; way < ways; way++) {
            int pack = shared(way, there);
            int left = Integer.bitCount(told.thingsAt(pack, LIES) & there);
            int by = told.unevenness(pack);
            if (told.fits(pack) && (left < bestLeft || left == bestLeft && by < bestBy)) {
                best = pack;
                bestLeft = left;
                bestBy = by;
            }
        }
        return best;
    }

    /** A way has a digit for each thing, thing 0 the highest: tray 0, tray 1, left; of one that isn't there it is idle. */
    private int shared(int way, int there) {
        int pack = places.pack;
        int rest = way;
        for (int t = MOST_THINGS - 1; t >= 0; t--) {
            int share = rest % SHARES;
            rest /= SHARES;
            if ((there >> t & 1) == 1 && share < TRAYS) {
                pack = moved(pack, t, ON + share);
            }
        }
        return pack;
    }

    /** Of all chances (ten for each open thing, multiplied) those by which just these are wanted. */
    private static int chancesOf(int x, int wanted, int open) {
        if ((wanted & ~open) != 0) {
            return 0;
        }
        int stay = Integer.bitCount(wanted);
        return power(TENTHS - x, stay) * power(x, Integer.bitCount(open) - stay);
    }

    private static int power(int base, int exponent) {
        int product = 1;
        for (int i = 0; i < exponent; i++) {
            product *= base;
        }
        return product;
    }

    /** Each two steps halve the number at least, so 64 are more than an int can need. */
    private static int greatestDivisor(int a, int b) {
        int high = a;
        int low = b;
        for (int i = 0; i < 64 && low != 0; i++) {
            int rest = high % low;
            high = low;
            low = rest;
        }
        return high;
    }

    /** What the text tells, and what follows from it for any floor of tray 0 and any pack. */
    private static final class House {
        int floors = FIRST_FLOORS;
        int room = FIRST_ROOM;
        int strong = FIRST_STRONG;
        int things = 0;
        final int[] from = new int[MOST_THINGS];
        final int[] to = new int[MOST_THINGS];
        final int[] weight = new int[MOST_THINGS];

        void begin() {
            floors = FIRST_FLOORS;
            room = FIRST_ROOM;
            strong = FIRST_STRONG;
            things = 0;
        }

        void copy(House other) {
            floors = other.floors;
            room = other.room;
            strong = other.strong;
            things = other.things;
            for (int t = 0; t < MOST_THINGS; t++) {
                from[t] = other.from[t];
                to[t] = other.to[t];
                weight[t] = other.weight[t];
            }
        }

        void add(int floor, int goal, int heavy) {
            if (things < MOST_THINGS) {
                from[things] = floor;
                to[things] = goal;
                weight[things] = heavy;
                things++;
            }
        }

        boolean hasThing(int t) {
            return t >= 0 && t < things;
        }

        boolean hasFloor(int floor) {
            return floor >= 0 && floor < floors;
        }

        int floorOfTray(int tray, int floor) {
            return tray == 0 ? floor : floors - 1 - floor;
        }

        int thingsAt(int pack, int place) {
            int bits = 0;
            for (int t = 0; t < things; t++) {
                if (placeOf(pack, t) == place) {
                    bits |= 1 << t;
                }
            }
            return bits;
        }

        int weightAt(int pack, int place) {
            int sum = 0;
            for (int t = 0; t < things; t++) {
                if (placeOf(pack, t) == place) {
                    sum += weight[t];
                }
            }
            return sum;
        }

        int unevenness(int pack) {
            return Math.abs(weightAt(pack, ON) - weightAt(pack, ON + 1));
        }

        boolean hasRoom(int pack, int tray) {
            return Integer.bitCount(thingsAt(pack, ON + tray)) < room;
        }

        boolean fits(int pack) {
            return Integer.bitCount(thingsAt(pack, ON)) <= room && Integer.bitCount(thingsAt(pack, ON + 1)) <= room;
        }

        boolean isEvenEnough(int pack) {
            return unevenness(pack) <= strong;
        }

        boolean canPull(int floor, int pack, int way) {
            return hasFloor(floorBehind(floor, way)) && isEvenEnough(pack);
        }
    }

    /** Where trays and things are, and how many pulls there were. */
    private static final class Places {
        /** That of tray 0; the other one's follows from it. */
        int floor = 0;
        int pack = 0;
        int pulled = 0;
        /** Counts only while the thing lies. */
        final int[] lies = new int[MOST_THINGS];

        void begin(House house) {
            floor = 0;
            pack = 0;
            pulled = 0;
            for (int t = 0; t < MOST_THINGS; t++) {
                lies[t] = house.from[t];
            }
        }

        void copy(Places other) {
            floor = other.floor;
            pack = other.pack;
            pulled = other.pulled;
            for (int t = 0; t < MOST_THINGS; t++) {
                lies[t] = other.lies[t];
            }
        }
    }

    /** The text, and its reading into a draft, so that a fault leaves the house as it was. */
    private static final class Text {
        final int[] letters = new int[MOST_LETTERS];
        int length = 0;
        final House draft = new House();

        private int at;
        private int start;
        private int token;
        private int value;

        private int items;
        private int item;
        private int numbers;
        private final int[] given = new int[3];
        private boolean roomTold;
        private boolean strongTold;

        boolean add(int letter) {
            if (length >= MOST_LETTERS) {
                return false;
            }
            letters[length] = letter;
            length++;
            return true;
        }

        int empty() {
            int had = length;
            length = 0;
            return had;
        }

        /** How many items, or -10 less the fault. */
        int read() {
            begin();
            for (int i = 0; i <= length; i++) {
                readToken();
                if (token == END) {
                    return item == NO_ITEM ? items : FAULT_BASE - length;
                }
                if (!acceptToken()) {
                    return FAULT_BASE - start;
                }
            }
            return FAULT_BASE - length;
        }

        private void begin() {
            draft.begin();
            at = 0;
            items = 0;
            item = NO_ITEM;
            roomTold = false;
            strongTold = false;
        }

        private void readToken() {
            while (at < length && letters[at] == BLANK) {
                at++;
            }
            start = at;
            if (at >= length) {
                token = END;
            } else if (isDigit(letters[at])) {
                readNumber();
            } else {
                token = isKnown(letters[at]) ? letters[at] : WRONG;
                at++;
            }
        }

        private void readNumber() {
            value = 0;
            while (at < length && isDigit(letters[at])) {
                // Held just above the bound, lest many digits wrap around into it.
                value = Math.min(value * 10 + letters[at] - '0', MOST_NUMBER + 1);
                at++;
            }
            boolean zeroAhead = letters[start] == '0' && at - start > 1;
            token = zeroAhead || value > MOST_NUMBER ? WRONG : NUMBER;
        }

        private static boolean isDigit(int letter) {
            return letter >= '0' && letter <= '9';
        }

        private static boolean isKnown(int letter) {
            return letter == 'f' || letter == 't' || letter == 'r' || letter == 's' || letter == ';';
        }

        private boolean acceptToken() {
            if (item == NO_ITEM) {
                return openItem();
            }
            if (numbers < (item == 't' ? 3 : 1)) {
                return acceptNumber();
            }
            return closeItem();
        }

        private boolean openItem() {
            item = token;
            numbers = 0;
            switch (token) {
                case 'f': return items == 0;
                case 't': return draft.things < MOST_THINGS;
                case 'r': return !roomTold;
                case 's': return !strongTold;
                default: return false;
            }
        }

        private boolean acceptNumber() {
            if (token != NUMBER || value < leastNumber() || value > greatestNumber()) {
                return false;
            }
            if (item == 't' && numbers == 1 && value == given[0]) {
                return false;
            }
            given[numbers] = value;
            numbers++;
            return true;
        }

        private int leastNumber() {
            switch (item) {
                case 'f': return LEAST_FLOORS;
                case 'r': return LEAST_ROOM;
                case 't': return numbers == 2 ? LEAST_WEIGHT : 0;
                default: return 0;
            }
        }

        private int greatestNumber() {
            switch (item) {
                case 'f': return MOST_FLOORS;
                case 'r': return MOST_ROOM;
                case 't': return numbers == 2 ? MOST_WEIGHT : draft.floors - 1;
                default: return MOST_STRONG;
            }
        }

        private boolean closeItem() {
            if (token != ';') {
                return false;
            }
            switch (item) {
                case 'f':
                    draft.floors = given[0];
                    break;
                case 'r':
                    draft.room = given[0];
                    roomTold = true;
                    break;
                case 's':
                    draft.strong = given[0];
                    strongTold = true;
                    break;
                default:
                    draft.add(given[0], given[1], given[2]);
            }
            items++;
            item = NO_ITEM;
            return true;
        }
    }

    /** The fewest pulls, level by level: a level has all states that so many pulls can reach. */
    private static final class Search {
        /** By a state's code: the number of the search that met it last, so nothing is to be wiped. */
        private final int[] met = new int[MOST_STATES];
        private final int[] codes = new int[MOST_STATES];
        private int searches = 0;
        private int size = 0;

        /** NONE, too, if it would take more than most; the first pull goes one of the first ways (bits). */
        int fewest(House house, Places places, int set, int firstWays, int most) {
            searches++;
            size = 0;
            meet(places.floor, places.pack);
            int first = 0;
            for (int pulled = 0; pulled <= most && first < size; pulled++) {
                putAndTake(house, places, set, first);
                if (anyIsHome(house, set, first)) {
                    return pulled;
                }
                int end = size;
                pullAll(house, first, end, pulled == 0 ? firstWays : EITHER_WAY);
                first = end;
            }
            return NONE;
        }

        private void meet(int floor, int pack) {
            int code = floor << PACK_BITS | pack;
            if (code >= 0 && code < MOST_STATES && size < MOST_STATES && met[code] != searches) {
                met[code] = searches;
                codes[size] = code;
                size++;
            }
        }

        /** States that are met here come behind on the same level, as putting and taking cost no pull. */
        private void putAndTake(House house, Places places, int set, int first) {
            for (int i = first; i < size && i < MOST_STATES; i++) {
                int floor = codes[i] >> PACK_BITS;
                int pack = codes[i] & PACK_MASK;
                for (int t = 0; t < house.things; t++) {
                    if ((set >> t & 1) == 1) {
                        for (int tray = 0; tray < TRAYS; tray++) {
                            putOrTake(house, places.lies[t], t, tray, floor, pack);
                        }
                    }
                }
            }
        }

        private void putOrTake(House house, int lies, int t, int tray, int floor, int pack) {
            int place = placeOf(pack, t);
            int trayFloor = house.floorOfTray(tray, floor);
            if (place == LIES && trayFloor == lies && house.hasRoom(pack, tray)) {
                meet(floor, moved(pack, t, ON + tray));
            } else if (place == ON + tray && trayFloor == house.to[t]) {
                meet(floor, moved(pack, t, HOME));
            }
        }

        private boolean anyIsHome(House house, int set, int first) {
            for (int i = first; i < size && i < MOST_STATES; i++) {
                if ((set & ~house.thingsAt(codes[i] & PACK_MASK, HOME)) == 0) {
                    return true;
                }
            }
            return false;
        }

        private void pullAll(House house, int first, int end, int ways) {
            for (int i = first; i < end && i < MOST_STATES; i++) {
                int pack = codes[i] & PACK_MASK;
                // Asked once for both ways: it is the dearest question of the search.
                if (house.isEvenEnough(pack)) {
                    pullBothWays(house, codes[i] >> PACK_BITS, pack, ways);
                }
            }
        }

        private void pullBothWays(House house, int floor, int pack, int ways) {
            for (int way = 0; way < WAYS; way++) {
                int behind = floorBehind(floor, way);
                if ((ways >> way & 1) == 1 && house.hasFloor(behind)) {
                    meet(behind, pack);
                }
            }
        }
    }

    /** What was seen of an unknown thing, and which weights it may have by that. */
    private static final class Scale {
        int seen = 0;
        private final int[] against = new int[MOST_SEEN];
        private final boolean[] went = new boolean[MOST_SEEN];

        boolean add(int v, boolean didGo) {
            if (seen >= MOST_SEEN) {
                return false;
            }
            against[seen] = v;
            went[seen] = didGo;
            seen++;
            return true;
        }

        int empty() {
            int had = seen;
            seen = 0;
            return had;
        }

        private static boolean goes(int weight, int v, int strong) {
            return Math.abs(weight - v) <= strong;
        }

        private boolean canBe(int weight, int strong) {
            for (int i = 0; i < seen; i++) {
                if (goes(weight, against[i], strong) != went[i]) {
                    return false;
                }
            }
            return true;
        }

        int howMany(int strong) {
            int many = 0;
            for (int weight = LEAST_WEIGHT; weight <= MOST_WEIGHT; weight++) {
                if (canBe(weight, strong)) {
                    many++;
                }
            }
            return many;
        }

        int least(int strong) {
            for (int weight = LEAST_WEIGHT; weight <= MOST_WEIGHT; weight++) {
                if (canBe(weight, strong)) {
                    return weight;
                }
            }
            return NONE;
        }

        int greatest(int strong) {
            for (int weight = MOST_WEIGHT; weight >= LEAST_WEIGHT; weight--) {
                if (canBe(weight, strong)) {
                    return weight;
                }
            }
            return NONE;
        }

        int bestAgainst(int strong) {
            int many = howMany(strong);
            if (many <= 1) {
                return NONE;
            }
            int best = 0;
            int bestPart = many + 1;
            for (int v = 0; v <= MOST_AGAINST; v++) {
                int going = howManyGo(v, strong);
                int part = Math.max(going, many - going);
                if (part < bestPart) {
                    best = v;
                    bestPart = part;
                }
            }
            return best;
        }

        private int howManyGo(int v, int strong) {
            int many = 0;
            for (int weight = LEAST_WEIGHT; weight <= MOST_WEIGHT; weight++) {
                if (canBe(weight, strong) && goes(weight, v, strong)) {
                    many++;
                }
            }
            return many;
        }
    }

    private static class Waiter {
        int worth(RopeTrays of, int t) {
            of.traced += 1;
            return of.told.weight[t];
        }
    }

    private static class Butler extends Waiter {
        int worth(RopeTrays of, int t) {
            of.traced += 10;
            return super.worth(of, t) + of.places.floor;
        }
    }

    private static class Cook extends Waiter {
        int worth(RopeTrays of, int t) {
            of.traced += 100;
            return super.worth(of, t) - Integer.bitCount(of.told.thingsAt(of.places.pack, LIES));
        }
    }

    private static final class Lord extends Butler {
        int worth(RopeTrays of, int t) {
            of.traced += 1000;
            return 2 * super.worth(of, t);
        }
    }

    private static final class Maid extends Cook {
        int worth(RopeTrays of, int t) {
            of.traced += 10000;
            return super.worth(of, t) + t;
        }
    }

    private static final class Boy extends Waiter {
        int worth(RopeTrays of, int t) {
            of.traced += 100000;
            return super.worth(of, t) + of.places.pulled;
        }
    }
}
