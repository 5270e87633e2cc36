import java.util.Arrays;

/** Governed by sleeping babies: a motion is carried if the cradle beside it stays asleep. */
public final class CradleBills {
    public static final int BAD = -1, STATE = -2, FULL = -3, NONE = -9;
    public static final int NO = -1000000;

    private static final int WORDS = 6, MOTIONS = 5, BABIES = 4, READ = 6;
    private static final int DEEPEST = 9, ROCK = 3, LAST_MINUTE = 99999;
    private static final int ROCK_MINUTES = 2, FEED_MINUTES = 3;
    private static final int CARRIED = -5, NOT_SO_MANY = -5;
    private static final int IMAGES = 2, FAULT_BASE = -10;

    private final House told;
    private final House draft;
    private final Teller teller;
    private final Now current;
    private final Past past;
    private final int[] images;
    private int keptImages;
    private final Cradles cradles;
    private final Orders orders;
    private final Plan plan;
    private final Heard heard;
    private final Kinds kinds;

    public CradleBills() {
        House house = new House();
        Now now = new Now();
        Cradles byNow = new Cradles(house, now);
        told = house;
        draft = new House();
        teller = new Teller();
        current = now;
        past = new Past();
        images = new int[IMAGES * Now.SIZE];
        keptImages = 0;
        cradles = byNow;
        orders = new Orders(house, now, byNow);
        plan = new Plan(house, now, byNow);
        heard = new Heard();
        kinds = new Kinds(house, now, byNow);
    }

    // ---- the house

    public int type(int letter) {
        if (letter < 0 || letter > 255) {
            return BAD;
        }
        return teller.adds(letter) ? teller.letters : FULL;
    }

    public int clear() {
        int had = teller.letters;
        teller.letters = 0;
        return had;
    }

    public int house() {
        // Told to a draft first, since a FAULT may change nothing.
        int fault = teller.tells(draft);
        if (fault != Teller.NO_FAULT) {
            return FAULT_BASE - fault;
        }
        teller.tells(told);
        teller.letters = 0;
        current.beginAsTold(told);
        past.lose();
        heard.size = 0;
        keptImages = 0;
        return told.items();
    }

    public int word(int w, int what) {
        if (!told.hasWord(w)) {
            return BAD;
        }
        switch (what) {
            case 0: return told.loud(w);
            case 1: return told.lull(w);
            default: return BAD;
        }
    }

    public int motion(int m, int what) {
        if (!told.hasMotion(m)) {
            return BAD;
        }
        switch (what) {
            case 0: return told.worth(m);
            case 1: return told.length(m);
            case 2: return current.isCarried(m) ? 1 : current.isLost(m) ? 2 : 0;
            default: return BAD;
        }
    }

    public int said(int m, int k) {
        if (!told.hasMotion(m) || k < 0 || k >= told.length(m)) {
            return BAD;
        }
        return told.wordAt(m, k);
    }

    public int baby(int b, int what) {
        if (!told.hasBaby(b)) {
            return BAD;
        }
        switch (what) {
            case 0: return current.depth(b);
            case 1: return told.ears(b);
            case 2: return told.hunger(b);
            case 3: return current.fed(b);
            case 4: return cradles.isHungry(b) ? 1 : 0;
            default: return BAD;
        }
    }

    public int now(int what) {
        switch (what) {
            case 0: return current.minute();
            case 1: return current.carriedBits();
            case 2: return current.lostBits();
            case 3: return cradles.earned();
            case 4: return cradles.asleepBits();
            case 5: return past.known;
            default: return BAD;
        }
    }

    // ---- what is done

    public int reads(int m, int b) {
        if (!isPair(m, b)) {
            return BAD;
        }
        int place = cradles.wakesAt(m, b);
        if (!current.isOpen(m) || place == NONE) {
            return STATE;
        }
        int minutes = place == CARRIED ? told.length(m) : place + 1;
        if (isTooLate(minutes)) {
            return STATE;
        }
        int depth = cradles.depthAfter(m, b, current.depth(b));
        past.remember(current);
        current.setDepth(b, depth);
        current.pass(minutes);
        current.decide(m, place == CARRIED);
        return place;
    }

    public int rocks(int b) {
        if (!told.hasBaby(b)) {
            return BAD;
        }
        if (isTooLate(ROCK_MINUTES)) {
            return STATE;
        }
        past.remember(current);
        current.pass(ROCK_MINUTES);
        current.setDepth(b, Cradles.rockedOnce(current.depth(b)));
        return current.depth(b);
    }

    public int feeds(int b) {
        if (!told.hasBaby(b)) {
            return BAD;
        }
        if (isTooLate(FEED_MINUTES)) {
            return STATE;
        }
        past.remember(current);
        current.pass(FEED_MINUTES);
        current.setFedNow(b);
        current.setDepth(b, 0);
        return current.minute();
    }

    public int undo() {
        if (past.known == 0) {
            return STATE;
        }
        past.takeBack(current);
        return past.known;
    }

    // ---- what would be

    public int would(int m, int b) {
        return isPair(m, b) ? cradles.wakesAt(m, b) : BAD;
    }

    public int deep(int m, int b) {
        return isPair(m, b) ? cradles.leastDepth(m, b) : BAD;
    }

    public int rockings(int m, int b) {
        return isPair(m, b) ? cradles.leastRockings(m, b) : BAD;
    }

    public int wording(int m, int b, int k) {
        if (!isPair(m, b) || k < 0) {
            return BAD;
        }
        if (!orders.findFirst(m, b)) {
            return NONE;
        }
        return k < told.length(m) ? orders.wordAt(k) : NOT_SO_MANY;
    }

    public int noise(int m, int b, int what) {
        if (!isPair(m, b) || what < 0 || what > 1) {
            return BAD;
        }
        int louder = cradles.leastLouder(m, b);
        if (louder == NONE || what == 0) {
            return louder;
        }
        return cradles.firstPlaceToWake(m, b, louder);
    }

    public int odds(int m, int b, int x, int what) {
        if (!isPair(m, b) || x < 0 || x > 10 || what < 0 || what > 1) {
            return BAD;
        }
        int upper = cradles.waysOfTen(m, b, x);
        int lower = Cradles.power(10, told.length(m));
        int common = Math.max(1, Cradles.commonDivisor(upper, lower));
        return (what == 0 ? upper : lower) / common;
    }

    // ---- which motion by which cradle

    public int match(int m) {
        if (m != -1 && !told.hasMotion(m)) {
            return BAD;
        }
        plan.findMatch();
        return m == -1 ? plan.bestWorth : plan.chosen(m);
    }

    public int agenda(int b, int k) {
        if (!told.hasBaby(b) || k < -1) {
            return BAD;
        }
        plan.findAgenda(b);
        if (k == -1) {
            return plan.bestWorth;
        }
        return k < plan.bestCount ? plan.chosen(k) : NOT_SO_MANY;
    }

    // ---- what was heard

    public int hears(int b, int place) {
        if (!told.hasBaby(b) || place < 0 || place > Heard.CARRIED_PLACE) {
            return BAD;
        }
        return heard.adds(b, place) ? heard.size : FULL;
    }

    public int forget() {
        int had = heard.size;
        heard.size = 0;
        return had;
    }

    public int which() {
        int bits = 0;
        for (int m = 0; m < told.motions; m++) {
            if (heard.isAllSo(m, cradles)) {
                bits |= 1 << m;
            }
        }
        return bits;
    }

    // ---- kinds, images

    public int rate(int kind, int b) {
        if (kind < 0 || kind > Kinds.LAST || !told.hasBaby(b)) {
            return NO;
        }
        return kinds.rated(kind, b);
    }

    public int keep(int image) {
        if (!isImage(image)) {
            return BAD;
        }
        current.saveTo(images, image);
        keptImages |= 1 << image;
        return current.minute();
    }

    public int back(int image) {
        if (!isImage(image)) {
            return BAD;
        }
        if ((keptImages >> image & 1) == 0) {
            return STATE;
        }
        current.loadFrom(images, image);
        past.lose();
        return current.minute();
    }

    public int count(int what) {
        switch (what) {
            case 0: return told.words;
            case 1: return told.motions;
            case 2: return told.babies;
            case 3: return heard.size;
            case 4: return teller.letters;
            default: return BAD;
        }
    }

    public long trace() {
        return kinds.asked;
    }

    private boolean isPair(int m, int b) {
        return told.hasMotion(m) && told.hasBaby(b);
    }

    private boolean isTooLate(int minutes) {
        return current.minute() + minutes > LAST_MINUTE;
    }

    private static boolean isImage(int image) {
        return image >= 0 && image < IMAGES;
    }

    /** What a text has told; nothing here changes until a text tells all anew. */
    private static final class House {
        int words = 0;
        int motions = 0;
        int babies = 0;
        private final int[] loudness = new int[WORDS];
        private final int[] lulling = new int[WORDS];
        private final int[] worths = new int[MOTIONS];
        private final int[] lengths = new int[MOTIONS];
        private final int[] texts = new int[MOTIONS * READ];
        private final int[] depths = new int[BABIES];
        private final int[] earSizes = new int[BABIES];
        private final int[] hungers = new int[BABIES];

        void empty() {
            words = 0;
            motions = 0;
            babies = 0;
        }

        int items() {
            return words + motions + babies;
        }

        void addWord(int loud, int lull) {
            if (words < WORDS) {
                loudness[words] = loud;
                lulling[words] = lull;
                words++;
            }
        }

        /** The row holds WORTH and, behind it, the WORDS. */
        void addMotion(int[] row, int length) {
            if (motions < MOTIONS && length >= 1 && length <= READ && length < row.length) {
                worths[motions] = row[0];
                lengths[motions] = length;
                System.arraycopy(row, 1, texts, motions * READ, length);
                motions++;
            }
        }

        void addBaby(int depth, int ears, int hunger) {
            if (babies < BABIES) {
                depths[babies] = depth;
                earSizes[babies] = ears;
                hungers[babies] = hunger;
                babies++;
            }
        }

        boolean hasWord(int w) {
            return w >= 0 && w < words && w < WORDS;
        }

        boolean hasMotion(int m) {
            return m >= 0 && m < motions && m < MOTIONS;
        }

        boolean hasBaby(int b) {
            return b >= 0 && b < babies && b < BABIES;
        }

        int loud(int w) {
            return w >= 0 && w < WORDS ? loudness[w] : 0;
        }

        int lull(int w) {
            return w >= 0 && w < WORDS ? lulling[w] : 0;
        }

        int worth(int m) {
            return m >= 0 && m < MOTIONS ? worths[m] : 0;
        }

        int length(int m) {
            return m >= 0 && m < MOTIONS ? lengths[m] : 0;
        }

        int wordAt(int m, int k) {
            return m >= 0 && m < MOTIONS && k >= 0 && k < READ ? texts[m * READ + k] : 0;
        }

        int depth(int b) {
            return b >= 0 && b < BABIES ? depths[b] : 0;
        }

        int ears(int b) {
            return b >= 0 && b < BABIES ? earSizes[b] : 0;
        }

        int hunger(int b) {
            return b >= 0 && b < BABIES ? hungers[b] : 0;
        }
    }

    /** THE TEXT, and how it is told to a house, token by token. */
    private static final class Teller {
        static final int NO_FAULT = -1;
        private static final int LETTERS = 200, NO_ITEM = 0, NOT_A_NUMBER = -1, NO_DIGIT = -1;

        int letters = 0;
        private final int[] text = new int[LETTERS];
        private final int[] numbers = new int[1 + READ];
        private int item = NO_ITEM;
        private int got = 0;

        boolean adds(int letter) {
            if (letters < 0 || letters >= LETTERS) {
                return false;
            }
            text[letters] = letter;
            letters++;
            return true;
        }

        /** The place of the FAULT, or NO_FAULT; behind a FAULT the house is half told. */
        int tells(House house) {
            house.empty();
            item = NO_ITEM;
            got = 0;
            for (int at = 0; at < letters; at++) {
                if (beginsToken(at) && !takes(house, at)) {
                    return at;
                }
            }
            return item == NO_ITEM ? NO_FAULT : letters;
        }

        private int letterAt(int at) {
            return at >= 0 && at < letters && at < LETTERS ? text[at] : ' ';
        }

        private int digitAt(int at) {
            int letter = letterAt(at);
            return letter >= '0' && letter <= '9' ? letter - '0' : NO_DIGIT;
        }

        private boolean beginsToken(int at) {
            boolean insideNumber = digitAt(at) != NO_DIGIT && digitAt(at - 1) != NO_DIGIT;
            return letterAt(at) != ' ' && !insideNumber;
        }

        /** Three digits are above 99 or have a 0 ahead, so that no more than three are looked at. */
        private int numberAt(int at) {
            int first = digitAt(at);
            int second = digitAt(at + 1);
            if (second == NO_DIGIT) {
                return first;
            }
            if (first == 0 || digitAt(at + 2) != NO_DIGIT) {
                return NOT_A_NUMBER;
            }
            return first * 10 + second;
        }

        private boolean takes(House house, int at) {
            if (digitAt(at) != NO_DIGIT) {
                return takesNumber(house, numberAt(at));
            }
            int letter = letterAt(at);
            return letter == ';' ? takesEnd(house) : takesBeginning(house, letter);
        }

        private boolean takesBeginning(House house, int letter) {
            if (item != NO_ITEM || !hasRoom(house, letter)) {
                return false;
            }
            item = letter;
            got = 0;
            return true;
        }

        private static boolean hasRoom(House house, int letter) {
            switch (letter) {
                case 'w': return house.words < WORDS;
                case 'm': return house.motions < MOTIONS;
                case 'b': return house.babies < BABIES;
                default: return false;
            }
        }

        private boolean takesNumber(House house, int number) {
            if (number == NOT_A_NUMBER || !mayStand(house, number) || got >= numbers.length) {
                return false;
            }
            numbers[got] = number;
            got++;
            return true;
        }

        private boolean mayStand(House house, int number) {
            switch (item) {
                case 'w': return got == 0 && number <= 9 || got == 1 && number <= 5;
                case 'm': return got == 0 || got <= READ && house.hasWord(number);
                case 'b': return got == 0 && number <= DEEPEST || got == 1 && number <= 3
                        || got == 2 && number >= 1;
                default: return false;
            }
        }

        private boolean takesEnd(House house) {
            if (item == 'w' && got == 2) {
                house.addWord(numbers[0], numbers[1]);
            } else if (item == 'm' && got >= 2) {
                house.addMotion(numbers, got - 1);
            } else if (item == 'b' && got == 3) {
                house.addBaby(numbers[0], numbers[1], numbers[2]);
            } else {
                return false;
            }
            item = NO_ITEM;
            return true;
        }
    }

    /** How things are NOW: one row, so that it is laid aside and fetched back whole. */
    private static final class Now {
        static final int SIZE = 2 * BABIES + 3;
        private static final int FED = BABIES, MINUTE = 2 * BABIES;
        private static final int CARRIED_BITS = MINUTE + 1, LOST_BITS = MINUTE + 2;

        private final int[] row = new int[SIZE];

        void beginAsTold(House house) {
            Arrays.fill(row, 0);
            for (int b = 0; b < house.babies && b < BABIES; b++) {
                row[b] = house.depth(b);
            }
        }

        void saveTo(int[] rows, int slot) {
            if (slot >= 0 && slot < rows.length / SIZE) {
                System.arraycopy(row, 0, rows, slot * SIZE, SIZE);
            }
        }

        void loadFrom(int[] rows, int slot) {
            if (slot >= 0 && slot < rows.length / SIZE) {
                System.arraycopy(rows, slot * SIZE, row, 0, SIZE);
            }
        }

        int depth(int b) {
            return b >= 0 && b < BABIES ? row[b] : 0;
        }

        int fed(int b) {
            return b >= 0 && b < BABIES ? row[FED + b] : 0;
        }

        int minute() {
            return row[MINUTE];
        }

        int carriedBits() {
            return row[CARRIED_BITS];
        }

        int lostBits() {
            return row[LOST_BITS];
        }

        boolean isCarried(int m) {
            return (row[CARRIED_BITS] >> m & 1) == 1;
        }

        boolean isLost(int m) {
            return (row[LOST_BITS] >> m & 1) == 1;
        }

        boolean isOpen(int m) {
            return !isCarried(m) && !isLost(m);
        }

        void setDepth(int b, int depth) {
            if (b >= 0 && b < BABIES) {
                row[b] = depth;
            }
        }

        void setFedNow(int b) {
            if (b >= 0 && b < BABIES) {
                row[FED + b] = row[MINUTE];
            }
        }

        void pass(int minutes) {
            row[MINUTE] += minutes;
        }

        void decide(int m, boolean carried) {
            row[carried ? CARRIED_BITS : LOST_BITS] |= 1 << m;
        }
    }

    /** What may be UNDONE: a ring in which the newest takes the place of the oldest. */
    private static final class Past {
        private static final int MOST = 10;

        int known = 0;
        private int next = 0;
        private final int[] rows = new int[MOST * Now.SIZE];

        void remember(Now now) {
            now.saveTo(rows, next);
            next = next >= MOST - 1 ? 0 : next + 1;
            known = Math.min(MOST, known + 1);
        }

        void takeBack(Now now) {
            if (known > 0) {
                next = next <= 0 ? MOST - 1 : next - 1;
                now.loadFrom(rows, next);
                known--;
            }
        }

        void lose() {
            known = 0;
        }
    }

    /** What a MOTION does, or would do, to a BABY as things are NOW. */
    private static final class Cradles {
        private static final int MOST_LOUDER = 9, MOST_ROCKINGS = 4;

        private final House house;
        private final Now now;

        Cradles(House house, Now now) {
            this.house = house;
            this.now = now;
        }

        boolean isHungry(int b) {
            return now.minute() - now.fed(b) >= house.hunger(b);
        }

        int earsNow(int b) {
            return isHungry(b) ? 2 * house.ears(b) : house.ears(b);
        }

        int asleepBits() {
            int bits = 0;
            for (int b = 0; b < house.babies; b++) {
                if (now.depth(b) > 0) {
                    bits |= 1 << b;
                }
            }
            return bits;
        }

        int earned() {
            int sum = 0;
            for (int m = 0; m < house.motions; m++) {
                if (now.isCarried(m)) {
                    sum += house.worth(m);
                }
            }
            return sum;
        }

        static int rockedOnce(int depth) {
            return Math.min(DEEPEST, depth + ROCK);
        }

        int depthAfterWord(int depth, int w, int louder, int ears) {
            int after = depth + house.lull(w) - (house.loud(w) + louder) * ears;
            return Math.max(0, Math.min(DEEPEST, after));
        }

        /** The DEPTH in which a MOTION leaves a BABY; 0: it was WOKEN, or awake before. */
        int depthAfter(int m, int b, int depth) {
            return depthAfterLouder(m, b, depth, 0, 0);
        }

        /** The same, if the WORDS at some places (bits) were so much louder. */
        int depthAfterLouder(int m, int b, int depth, int places, int louder) {
            int ears = earsNow(b);
            int length = house.length(m);
            int after = depth;
            for (int k = 0; k < length && after > 0; k++) {
                int more = (places >> k & 1) * louder;
                after = depthAfterWord(after, house.wordAt(m, k), more, ears);
            }
            return after;
        }

        boolean wouldCarry(int m, int b) {
            return depthAfterLouder(m, b, now.depth(b), 0, 0) > 0;
        }

        int wakesAt(int m, int b) {
            int depth = now.depth(b);
            if (depth == 0) {
                return NONE;
            }
            int ears = earsNow(b);
            int length = house.length(m);
            for (int k = 0; k < length; k++) {
                depth = depthAfterWord(depth, house.wordAt(m, k), 0, ears);
                if (depth == 0) {
                    return k;
                }
            }
            return CARRIED;
        }

        int leastDepth(int m, int b) {
            for (int depth = 1; depth <= DEEPEST; depth++) {
                if (depthAfter(m, b, depth) > 0) {
                    return depth;
                }
            }
            return NONE;
        }

        int leastRockings(int m, int b) {
            int depth = now.depth(b);
            for (int times = 0; times <= MOST_ROCKINGS; times++) {
                if (depthAfter(m, b, depth) > 0) {
                    return times;
                }
                depth = rockedOnce(depth);
            }
            return NONE;
        }

        /** How much louder one WORD must be at least; NONE. */
        int leastLouder(int m, int b) {
            if (!wouldCarry(m, b)) {
                return NONE;
            }
            for (int louder = 1; louder <= MOST_LOUDER; louder++) {
                if (firstPlaceToWake(m, b, louder) != NONE) {
                    return louder;
                }
            }
            return NONE;
        }

        int firstPlaceToWake(int m, int b, int louder) {
            int length = house.length(m);
            for (int k = 0; k < length; k++) {
                if (depthAfterLouder(m, b, now.depth(b), 1 << k, louder) == 0) {
                    return k;
                }
            }
            return NONE;
        }

        /** In how many of 10 to the power of its length cases a MOTION would be CARRIED. */
        int waysOfTen(int m, int b, int x) {
            int length = Math.min(READ, house.length(m));
            int ways = 0;
            for (int places = 0; places < 1 << length; places++) {
                if (depthAfterLouder(m, b, now.depth(b), places, 1) > 0) {
                    int loud = Integer.bitCount(places);
                    ways += power(x, loud) * power(10 - x, length - loud);
                }
            }
            return ways;
        }

        static int power(int base, int times) {
            int product = 1;
            for (int i = 0; i < times; i++) {
                product *= base;
            }
            return product;
        }

        static int commonDivisor(int one, int other) {
            int a = one;
            int b = other;
            for (int step = 0; step < 100 && b != 0; step++) {
                int rest = a % b;
                a = b;
                b = rest;
            }
            return a;
        }
    }

    /** The first order of a MOTION's WORDS by which it would be CARRIED. */
    private static final class Orders {
        private final House house;
        private final Now now;
        private final Cradles cradles;
        private final int[] left = new int[WORDS];
        private final int[] order = new int[READ];

        Orders(House house, Now now, Cradles cradles) {
            this.house = house;
            this.now = now;
            this.cradles = cradles;
        }

        boolean findFirst(int m, int b) {
            int length = Math.min(READ, house.length(m));
            Arrays.fill(left, 0);
            for (int k = 0; k < length; k++) {
                int w = house.wordAt(m, k);
                if (w >= 0 && w < WORDS) {
                    left[w]++;
                }
            }
            return now.depth(b) > 0 && canGoOn(0, length, now.depth(b), cradles.earsNow(b));
        }

        int wordAt(int k) {
            return k >= 0 && k < READ ? order[k] : NONE;
        }

        /** Tries the lowest WORD first at each place, so the first row that is whole is the answer. */
        private boolean canGoOn(int k, int length, int depth, int ears) {
            if (k >= length || k >= READ) {
                return true;
            }
            for (int w = 0; w < WORDS; w++) {
                int after = left[w] > 0 ? cradles.depthAfterWord(depth, w, 0, ears) : 0;
                if (after > 0) {
                    left[w]--;
                    order[k] = w;
                    if (canGoOn(k + 1, length, after, ears)) {
                        return true;
                    }
                    left[w]++;
                }
            }
            return false;
        }
    }

    /** Searches for MATCH and AGENDA; what was found last stays until the next search. */
    private static final class Plan {
        private final House house;
        private final Now now;
        private final Cradles cradles;
        int bestWorth = 0;
        int bestCount = 0;
        private final int[] best = new int[MOTIONS];
        private final int[] row = new int[MOTIONS];
        private final int[] carriers = new int[MOTIONS];

        Plan(House house, Now now, Cradles cradles) {
            this.house = house;
            this.now = now;
            this.cradles = cradles;
        }

        int chosen(int k) {
            return k >= 0 && k < MOTIONS ? best[k] : NONE;
        }

        void findMatch() {
            for (int m = 0; m < MOTIONS; m++) {
                carriers[m] = house.hasMotion(m) && now.isOpen(m) ? carriersOf(m) : 0;
            }
            bestWorth = -1;
            giveFrom(0, 0, 0);
        }

        private int carriersOf(int m) {
            int bits = 0;
            for (int b = 0; b < house.babies; b++) {
                if (cradles.wouldCarry(m, b)) {
                    bits |= 1 << b;
                }
            }
            return bits;
        }

        /**
         * Ways come in their own order, so of several the first stays. A BABY that a MOTION would
         * wake adds no WORTH and stands behind none: such ways are never first and are left out.
         */
        private void giveFrom(int m, int taken, int worth) {
            if (m >= house.motions || m >= MOTIONS) {
                if (worth > bestWorth) {
                    takeRow(worth, m);
                }
                return;
            }
            row[m] = NONE;
            giveFrom(m + 1, taken, worth);
            for (int b = 0; b < house.babies; b++) {
                if (((carriers[m] & ~taken) >> b & 1) == 1) {
                    row[m] = b;
                    giveFrom(m + 1, taken | 1 << b, worth + house.worth(m));
                }
            }
        }

        void findAgenda(int b) {
            bestWorth = -1;
            bestCount = 0;
            readFrom(b, 0, 0, now.depth(b), 0);
        }

        /** Rows of one length come by their numbers, so of several the first stays. */
        private void readFrom(int b, int count, int taken, int depth, int worth) {
            if (worth > bestWorth || worth == bestWorth && count < bestCount) {
                takeRow(worth, count);
            }
            if (count >= MOTIONS) {
                return;
            }
            for (int m = 0; m < house.motions; m++) {
                boolean free = (taken >> m & 1) == 0 && now.isOpen(m);
                int after = free ? cradles.depthAfter(m, b, depth) : 0;
                if (after > 0) {
                    row[count] = m;
                    readFrom(b, count + 1, taken | 1 << m, after, worth + house.worth(m));
                }
            }
        }

        private void takeRow(int worth, int count) {
            bestWorth = worth;
            bestCount = count;
            System.arraycopy(row, 0, best, 0, MOTIONS);
        }
    }

    /** What was HEARD of one and the same MOTION. */
    private static final class Heard {
        static final int CARRIED_PLACE = 6;
        private static final int MOST = 6;

        int size = 0;
        private final int[] who = new int[MOST];
        private final int[] where = new int[MOST];

        boolean adds(int b, int place) {
            if (size < 0 || size >= MOST) {
                return false;
            }
            who[size] = b;
            where[size] = place;
            size++;
            return true;
        }

        boolean isAllSo(int m, Cradles cradles) {
            for (int i = 0; i < size && i < MOST; i++) {
                int due = where[i] == CARRIED_PLACE ? CARRIED : where[i];
                if (cradles.wakesAt(m, who[i]) != due) {
                    return false;
                }
            }
            return true;
        }
    }

    /** RATE: a body for each KIND; each asks the one above it once. */
    private static final class Kinds {
        static final int LAST = 5;

        private final House house;
        private final Now now;
        private final Cradles cradles;
        long asked = 0;

        Kinds(House house, Now now, Cradles cradles) {
            this.house = house;
            this.now = now;
            this.cradles = cradles;
        }

        int rated(int kind, int b) {
            switch (kind) {
                case 0: return asBaby(b);
                case 1: return asColic(b);
                case 2: return asTwin(b);
                case 3: return asTeeth(b);
                case 4: return asNurse(b);
                case 5: return asCharter(b);
                default: return NO;
            }
        }

        private int asBaby(int b) {
            asked += 1;
            return now.depth(b);
        }

        private int asColic(int b) {
            asked += 10;
            return asBaby(b) + house.ears(b);
        }

        private int asTwin(int b) {
            asked += 100;
            int up = asBaby(b);
            return cradles.isHungry(b) ? up - 5 : up;
        }

        private int asTeeth(int b) {
            asked += 1000;
            return 2 * asColic(b);
        }

        private int asNurse(int b) {
            asked += 10000;
            return asTwin(b) + b;
        }

        private int asCharter(int b) {
            asked += 100000;
            return asBaby(b) + cradles.earned();
        }
    }
}
