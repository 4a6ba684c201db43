/**
 * Courts that end their wars by swapping places: a world told in a text, the acts done in it, and what
 * can be reckoned from it. The numbered promises that the methods keep stand in the project's document.
 *
 * All rows are made in the constructors and used again, so that no call makes an object.
 */
public final class SpiceSwaps {
    /** There is none. */
    public static final int NONE = -1;
    /** No number is there. */
    public static final int GAP = -1000000000;

    private static final int MOST_COURTS = 4;
    private static final int MOST_CROPS = 3;
    private static final int MOST_PLACES = 7;
    private static final int LAST_YEAR = 999;
    private static final int FAR_YEARS = 60;
    private static final int BOXES = 3;
    private static final int NOTHING_LIES = -2;
    private static final int LAST_TIME = 100000;

    private final Tape tape;
    private final Reader reader;
    private Told told;
    private Told spare;
    private final Moment now;
    private final Moment ahead;
    private final History history;
    private final Bargains bargains;
    private final Secrets secrets;
    private final Row lying;
    private final int[] boxRows;
    private final boolean[] boxFull;
    private int time;

    public SpiceSwaps() {
        tape = new Tape();
        told = new Told();
        spare = new Told();
        reader = new Reader(tape, spare);
        now = new Moment(told);
        ahead = new Moment(told);
        history = new History();
        bargains = new Bargains();
        secrets = new Secrets();
        lying = new Row();
        boxRows = new int[BOXES * Moment.CELLS];
        boxFull = new boolean[BOXES];
        time = 0;
    }

    // ---- the world's text

    public int feed(int a, int b, int c, int d, int e) {
        if (!tape.hasRoomFor(20)) {
            return NONE;
        }
        tape.put(a);
        tape.put(b);
        tape.put(c);
        tape.put(d);
        tape.put(e);
        return tape.size;
    }

    public int end(int n) {
        return tape.cutTo(n) ? n : NONE;
    }

    public int world() {
        if (!reader.read(spare)) {
            return NONE;
        }
        Told read = spare;
        spare = told;
        told = read;
        tape.cutTo(0);
        now.begin(told);
        history.forget();
        secrets.forget();
        lying.empty();
        for (int box = 0; box < boxFull.length; box++) {
            boxFull[box] = false;
        }
        return told.places;
    }

    public int fault(int what) {
        if (what == 0) {
            return reader.fault;
        }
        return what == 1 ? reader.faultAt : NONE;
    }

    // ---- what is so now

    public int place(int place, int what) {
        if (!isPlace(place)) {
            return GAP;
        }
        switch (what) {
            case 0:
                return now.holderOf[place];
            case 1:
                return now.yieldOf[place];
            case 2:
                return now.cropOf[place];
            case 3:
                return told.harbourOf[place];
            case 4:
                return told.garrisonOf[place];
            case 5:
                return now.earnedAt(place);
            default:
                return GAP;
        }
    }

    public int court(int court, int what) {
        if (!isCourt(court)) {
            return GAP;
        }
        switch (what) {
            case 0:
                return now.goldOf[court];
            case 1:
                return now.placesOf(court);
            case 2:
                return now.earnedBy(court);
            case 3:
                bargains.weigh(now);
                return bargains.worthOfSet(court, now.placesOf(court));
            default:
                return GAP;
        }
    }

    public int crop(int crop, int what) {
        if (!isCrop(crop)) {
            return NONE;
        }
        switch (what) {
            case 0:
                return told.priceOf[crop];
            case 1:
                return now.growersOf(crop);
            case 2:
                return now.plantedWith(crop);
            default:
                return NONE;
        }
    }

    public int belief(int court, int place) {
        return isCourt(court) && isPlace(place) ? told.believed(court, place) : NONE;
    }

    public int worth(int court, int place) {
        return isCourt(court) && isPlace(place) ? now.worthTo(court, place) : GAP;
    }

    // ---- acts

    public boolean swap(int place, int other) {
        if (!areOfUnlikeCourts(place, other)) {
            return false;
        }
        history.keep(now);
        int court = now.holderOf[place];
        now.holderOf[place] = now.holderOf[other];
        now.holderOf[other] = court;
        return true;
    }

    public int cede(int place, int court) {
        if (!isPlace(place) || !isCourt(court) || now.holderOf[place] == court) {
            return NONE;
        }
        history.keep(now);
        int giver = now.holderOf[place];
        now.holderOf[place] = court;
        return giver;
    }

    public int carry(int crop, int place) {
        if (!isCrop(crop) || !isPlace(place) || now.cropOf[place] != NONE) {
            return NONE;
        }
        int growers = now.growersOf(crop);
        if ((growers >> now.holderOf[place] & 1) == 0) {
            return NONE;
        }
        history.keep(now);
        now.cropOf[place] = crop;
        return Integer.bitCount(growers);
    }

    public int year() {
        if (now.year >= LAST_YEAR) {
            return GAP;
        }
        history.keep(now);
        return now.passYear();
    }

    public boolean undo() {
        return history.takeBack(now);
    }

    public boolean redo() {
        return history.doAgain(now);
    }

    // ---- bargains

    public int gain(int place, int other) {
        if (!areOfUnlikeCourts(place, other)) {
            return GAP;
        }
        int court = now.holderOf[place];
        return now.worthTo(court, other) - now.worthTo(court, place);
    }

    public int best(int what) {
        bargains.weigh(now);
        if (!bargains.findSwap()) {
            return GAP;
        }
        switch (what) {
            case 0:
                return bargains.swapGains;
            case 1:
                return bargains.swapLow;
            case 2:
                return bargains.swapHigh;
            default:
                return GAP;
        }
    }

    public int swaps() {
        bargains.weigh(now);
        return bargains.countSwaps();
    }

    public int haggle() {
        bargains.weigh(now);
        lying.empty();
        int made = bargains.settle();
        if (made != NONE) {
            lying.fill(bargains.holders, told.places);
        }
        return made;
    }

    public int envies(int court) {
        if (!isCourt(court)) {
            return NONE;
        }
        bargains.weigh(now);
        int own = bargains.worthOfSet(court, now.placesOf(court));
        int envied = 0;
        for (int other = 0; other < told.courts; other++) {
            if (bargains.worthOfSet(court, now.placesOf(other)) > own) {
                envied |= 1 << other;
            }
        }
        return envied;
    }

    public int ports(int court) {
        if (!isCourt(court)) {
            return NONE;
        }
        int harbours = 0;
        for (int place = 0; place < told.places; place++) {
            if (now.holderOf[place] == court) {
                harbours += told.harbourOf[place];
            }
        }
        return harbours;
    }

    public int ring() {
        bargains.weigh(now);
        lying.empty();
        int gains = bargains.findRing();
        if (gains != GAP) {
            lying.fill(bargains.ringGifts, told.courts);
        }
        return gains;
    }

    public int dear() {
        bargains.weigh(now);
        lying.empty();
        int together = 0;
        for (int place = 0; place < told.places; place++) {
            int court = bargains.dearestCourt(place);
            together += bargains.worthOf(court, place);
            lying.add(court);
        }
        return together;
    }

    public int misheld() {
        bargains.weigh(now);
        int places = 0;
        for (int place = 0; place < told.places; place++) {
            int most = bargains.worthOf(bargains.dearestCourt(place), place);
            if (most > bargains.worthOf(now.holderOf[place], place)) {
                places |= 1 << place;
            }
        }
        return places;
    }

    public int divide(int court, int other, int set, int what) {
        if (!areTwoCourts(court, other) || set < 0 || set >= 1 << told.places) {
            return GAP;
        }
        bargains.weigh(now);
        bargains.divideSet(court, other, set);
        switch (what) {
            case 0:
                return bargains.lesserWorth;
            case 1:
                return bargains.bothWorth;
            case 2:
                return bargains.part;
            default:
                return GAP;
        }
    }

    public int lots(int court, int other, int worth, int what) {
        if (!areTwoCourts(court, other)) {
            return GAP;
        }
        bargains.weigh(now);
        if (!bargains.findLots(court, other, worth)) {
            return GAP;
        }
        switch (what) {
            case 0:
                return Integer.bitCount(bargains.part);
            case 1:
                return bargains.lesserWorth;
            case 2:
                return bargains.part;
            default:
                return GAP;
        }
    }

    // ---- seeds

    public int seeds(int court, int crop, int what) {
        if (!isCourt(court) || !isCrop(crop) || what < 0 || what > 1) {
            return GAP;
        }
        if ((now.growersOf(crop) >> court & 1) == 0) {
            return GAP;
        }
        int earned = now.earnedBy(court);
        int bestPlace = NONE;
        int bestMore = 0;
        for (int place = 0; place < told.places; place++) {
            if (now.holderOf[place] == court && now.cropOf[place] == NONE) {
                plantAhead(crop, place);
                int more = ahead.earnedBy(court) - earned;
                if (bestPlace == NONE || more > bestMore) {
                    bestPlace = place;
                    bestMore = more;
                }
            }
        }
        if (bestPlace == NONE) {
            return GAP;
        }
        return what == 0 ? bestPlace : bestMore;
    }

    public int leak(int crop, int place) {
        if (!isCrop(crop) || !isPlace(place) || now.cropOf[place] != NONE) {
            return GAP;
        }
        plantAhead(crop, place);
        int less = 0;
        for (int court = 0; court < told.courts; court++) {
            if (court != now.holderOf[place]) {
                less += now.earnedBy(court) - ahead.earnedBy(court);
            }
        }
        return less;
    }

    // ---- years to come

    public int will(int court, int n) {
        if (!isCourt(court) || !isFarYear(n)) {
            return GAP;
        }
        lookAhead(n);
        return ahead.goldOf[court];
    }

    public int ruin(int court) {
        if (!isCourt(court)) {
            return NONE;
        }
        ahead.copyFrom(now);
        for (int n = 0; n <= FAR_YEARS; n++) {
            if (ahead.goldOf[court] < 0) {
                return n;
            }
            ahead.passYear();
        }
        return NONE;
    }

    public int grown(int place, int n) {
        if (!isPlace(place) || !isFarYear(n)) {
            return NONE;
        }
        lookAhead(n);
        return ahead.yieldOf[place];
    }

    public int richest(int n) {
        if (!isFarYear(n) || told.courts == 0) {
            return NONE;
        }
        lookAhead(n);
        int first = 0;
        for (int court = 1; court < told.courts; court++) {
            if (ahead.goldOf[court] > ahead.goldOf[first]) {
                first = court;
            }
        }
        return first;
    }

    public int odds(int n, int part) {
        if (told.places == 0 || n < 0 || n > 3 || part < 0 || part > 1) {
            return NONE;
        }
        int lower = 100 * told.places;
        int upper = lower - told.storm;
        int common = commonDivisor(upper, lower);
        int term = (part == 0 ? upper : lower) / Math.max(1, common);
        int power = 1;
        for (int i = 0; i < n; i++) {
            power *= term;
        }
        return power;
    }

    public int lies(int i) {
        return i >= 0 && i < lying.size ? lying.numbers[i] : NOTHING_LIES;
    }

    // ---- the secret article

    public int yields(int least, boolean is) {
        return least >= 0 && least <= 99 ? secrets.tell(Secrets.YIELDS, least, is, time) : NONE;
    }

    public int harbours(boolean is) {
        return secrets.tell(Secrets.HARBOUR, 1, is, time);
    }

    public int holds(int court, boolean is) {
        return isCourt(court) ? secrets.tell(Secrets.HOLDER, court, is, time) : NONE;
    }

    public int grows(int crop, boolean is) {
        return isCrop(crop) ? secrets.tell(Secrets.CROP, crop, is, time) : NONE;
    }

    public boolean untell(int said) {
        return secrets.takeAway(said, time);
    }

    public int later(int by) {
        if (by < 0 || by > 1000 || time + by > LAST_TIME) {
            return NONE;
        }
        time += by;
        return time;
    }

    public int fits(int k) {
        return secrets.fitting(now, k);
    }

    public int ask(int what, int k) {
        int fitting = secrets.fitting(now, k);
        if (fitting == 0 || what < 0 || what > 1) {
            return NONE;
        }
        int question = 0;
        int left = secrets.mostLeft(now, fitting, Secrets.QUESTIONS[0]);
        for (int i = 1; i < Secrets.QUESTIONS.length; i++) {
            int leftThen = secrets.mostLeft(now, fitting, Secrets.QUESTIONS[i]);
            if (leftThen < left) {
                question = i;
                left = leftThen;
            }
        }
        return what == 0 ? question : left;
    }

    // ---- images

    public int image(int box) {
        if (box < 0 || box >= BOXES) {
            return NONE;
        }
        now.writeTo(boxRows, box * Moment.CELLS);
        boxFull[box] = true;
        return now.year;
    }

    public int back(int box) {
        if (box < 0 || box >= BOXES || !boxFull[box]) {
            return NONE;
        }
        now.readFrom(boxRows, box * Moment.CELLS);
        history.forget();
        return now.year;
    }

    public int about(int what) {
        switch (what) {
            case 0:
                return told.places;
            case 1:
                return told.courts;
            case 2:
                return told.crops;
            case 3:
                return now.year;
            case 4:
                return now.seed;
            case 5:
                return now.allYields();
            case 6:
                return history.done;
            case 7:
                return history.undone;
            case 8:
                return secrets.size;
            case 9:
                return time;
            case 10:
                return tape.size;
            case 11:
                return told.worthBy.units + told.growBy.units;
            case 12:
                return lying.size;
            default:
                return NONE;
        }
    }

    // ---- what the calls share

    private boolean isPlace(int place) {
        return place >= 0 && place < told.places;
    }

    private boolean isCourt(int court) {
        return court >= 0 && court < told.courts;
    }

    private boolean isCrop(int crop) {
        return crop >= 0 && crop < told.crops;
    }

    private boolean isFarYear(int n) {
        return n >= 0 && n <= FAR_YEARS;
    }

    private boolean areTwoCourts(int court, int other) {
        return isCourt(court) && isCourt(other) && court != other;
    }

    private boolean areOfUnlikeCourts(int place, int other) {
        return isPlace(place) && isPlace(other) && now.holderOf[place] != now.holderOf[other];
    }

    private void lookAhead(int n) {
        ahead.copyFrom(now);
        for (int i = 0; i < n; i++) {
            ahead.passYear();
        }
    }

    private void plantAhead(int crop, int place) {
        ahead.copyFrom(now);
        ahead.cropOf[place] = crop;
    }

    private static int commonDivisor(int a, int b) {
        int high = a;
        int low = b;
        for (int i = 0; i < 100 && low != 0; i++) {
            int rest = high % low;
            high = low;
            low = rest;
        }
        return high;
    }

    private static int within(int least, int number, int most) {
        return Math.max(least, Math.min(most, number));
    }

    /** The bytes that are fed, until they are taken as a world. */
    private static final class Tape {
        static final int MOST = 1600;

        final byte[] bytes = new byte[MOST];
        int size;

        boolean hasRoomFor(int more) {
            return size + more <= MOST;
        }

        void put(int number) {
            for (int shift = 24; shift >= 0 && size < MOST; shift -= 8) {
                bytes[size] = (byte) (number >> shift);
                size++;
            }
        }

        boolean cutTo(int n) {
            if (n < 0 || n > size) {
                return false;
            }
            size = n;
            return true;
        }
    }

    /** A formula in the order in which its parts are reckoned: numbers first, then what joins them. */
    private static final class Formula {
        static final int MOST_UNITS = 30;
        static final int LIGHTS = 7;
        static final int NOT = 7;
        static final int OR = 8;
        static final int AND = 9;
        static final int LESS = 10;
        static final int MORE = 11;
        static final int SAME = 12;
        static final int PLUS = 13;
        static final int MINUS = 14;
        static final int TIMES = 15;
        static final int OVER = 16;
        static final int REST = 17;
        static final int LITERAL = 100;
        // 30 units, 29 signs between them, and up to 7 times not ahead of each.
        private static final int MOST_STEPS = 272;

        final int[] steps = new int[MOST_STEPS];
        final int[] stack = new int[MOST_UNITS];
        int size;
        int units;
        boolean isTold;

        void forget() {
            size = 0;
            units = 0;
            isTold = false;
        }

        void add(int step) {
            if (size < steps.length) {
                steps[size] = step;
                size++;
            }
        }

        int reckon(int[] lights) {
            int top = 0;
            for (int i = 0; i < size && i < steps.length; i++) {
                int step = steps[i];
                if (step < LIGHTS || step >= LITERAL) {
                    if (top < stack.length) {
                        stack[top] = step >= LITERAL ? step - LITERAL : lightAt(lights, step);
                        top++;
                    }
                } else if (step == NOT && top >= 1) {
                    stack[top - 1] = bit(stack[top - 1] == 0);
                } else if (top >= 2) {
                    top--;
                    stack[top - 1] = join(step, stack[top - 1], stack[top]);
                }
            }
            return top > 0 ? stack[0] : 0;
        }

        private static int lightAt(int[] lights, int i) {
            return i >= 0 && i < lights.length ? lights[i] : 0;
        }

        private static int join(int step, int left, int right) {
            switch (step) {
                case OR:
                    return bit(left != 0 || right != 0);
                case AND:
                    return bit(left != 0 && right != 0);
                case LESS:
                    return bit(left < right);
                case MORE:
                    return bit(left > right);
                case SAME:
                    return bit(left == right);
                case PLUS:
                    return left + right;
                case MINUS:
                    return left - right;
                case TIMES:
                    return left * right;
                case OVER:
                    return right == 0 ? 0 : left / right;
                default:
                    return right == 0 ? 0 : left % right;
            }
        }

        private static int bit(boolean is) {
            return is ? 1 : 0;
        }
    }

    /** What a world's text tells; it stays as it is until another world is read. */
    private static final class Told {
        private static final int UNTOLD = -1;

        int courts;
        int crops;
        int places;
        final int[] goldOf = new int[MOST_COURTS];
        final int[] priceOf = new int[MOST_CROPS];
        final int[] holderOf = new int[MOST_PLACES];
        final int[] yieldOf = new int[MOST_PLACES];
        final int[] cropOf = new int[MOST_PLACES];
        final int[] harbourOf = new int[MOST_PLACES];
        final int[] garrisonOf = new int[MOST_PLACES];
        final int[] beliefOf = new int[MOST_COURTS * MOST_PLACES];
        final Formula worthBy = new Formula();
        final Formula growBy = new Formula();
        int storm;
        int stormLoss;
        boolean stormIsTold;
        int draw;
        boolean drawIsTold;

        Told() {
            forget();
        }

        void forget() {
            courts = 0;
            crops = 0;
            places = 0;
            for (int i = 0; i < beliefOf.length; i++) {
                beliefOf[i] = UNTOLD;
            }
            worthBy.forget();
            growBy.forget();
            storm = 0;
            stormLoss = 1;
            stormIsTold = false;
            draw = 0;
            drawIsTold = false;
        }

        boolean isBelieved(int court, int place) {
            return beliefOf[court * MOST_PLACES + place] != UNTOLD;
        }

        void believe(int court, int place, int belief) {
            beliefOf[court * MOST_PLACES + place] = belief;
        }

        int believed(int court, int place) {
            return isBelieved(court, place) ? beliefOf[court * MOST_PLACES + place] : 100;
        }
    }

    /** All that acts change, as it is at one time, and what follows from it. */
    private static final class Moment {
        static final int CELLS = 3 * MOST_PLACES + MOST_COURTS + 2;
        private static final int GOLD_AT = 3 * MOST_PLACES;
        private static final int YEAR_AT = GOLD_AT + MOST_COURTS;

        Told told;
        final int[] holderOf = new int[MOST_PLACES];
        final int[] yieldOf = new int[MOST_PLACES];
        final int[] cropOf = new int[MOST_PLACES];
        final int[] goldOf = new int[MOST_COURTS];
        final int[] lights = new int[Formula.LIGHTS];
        int year;
        int seed;

        Moment(Told facts) {
            begin(facts);
        }

        void begin(Told facts) {
            told = facts;
            System.arraycopy(facts.holderOf, 0, holderOf, 0, MOST_PLACES);
            System.arraycopy(facts.yieldOf, 0, yieldOf, 0, MOST_PLACES);
            System.arraycopy(facts.cropOf, 0, cropOf, 0, MOST_PLACES);
            System.arraycopy(facts.goldOf, 0, goldOf, 0, MOST_COURTS);
            year = 0;
            seed = facts.draw;
        }

        void copyFrom(Moment other) {
            told = other.told;
            System.arraycopy(other.holderOf, 0, holderOf, 0, MOST_PLACES);
            System.arraycopy(other.yieldOf, 0, yieldOf, 0, MOST_PLACES);
            System.arraycopy(other.cropOf, 0, cropOf, 0, MOST_PLACES);
            System.arraycopy(other.goldOf, 0, goldOf, 0, MOST_COURTS);
            year = other.year;
            seed = other.seed;
        }

        void writeTo(int[] row, int at) {
            if (at < 0 || at > row.length - CELLS) {
                return;
            }
            System.arraycopy(holderOf, 0, row, at, MOST_PLACES);
            System.arraycopy(yieldOf, 0, row, at + MOST_PLACES, MOST_PLACES);
            System.arraycopy(cropOf, 0, row, at + 2 * MOST_PLACES, MOST_PLACES);
            System.arraycopy(goldOf, 0, row, at + GOLD_AT, MOST_COURTS);
            row[at + YEAR_AT] = year;
            row[at + YEAR_AT + 1] = seed;
        }

        void readFrom(int[] row, int at) {
            if (at < 0 || at > row.length - CELLS) {
                return;
            }
            System.arraycopy(row, at, holderOf, 0, MOST_PLACES);
            System.arraycopy(row, at + MOST_PLACES, yieldOf, 0, MOST_PLACES);
            System.arraycopy(row, at + 2 * MOST_PLACES, cropOf, 0, MOST_PLACES);
            System.arraycopy(row, at + GOLD_AT, goldOf, 0, MOST_COURTS);
            year = row[at + YEAR_AT];
            seed = row[at + YEAR_AT + 1];
        }

        int placesOf(int court) {
            int places = 0;
            for (int place = 0; place < told.places; place++) {
                if (holderOf[place] == court) {
                    places |= 1 << place;
                }
            }
            return places;
        }

        int plantedWith(int crop) {
            int places = 0;
            for (int place = 0; place < told.places; place++) {
                if (cropOf[place] == crop) {
                    places |= 1 << place;
                }
            }
            return places;
        }

        int growersOf(int crop) {
            int courts = 0;
            for (int place = 0; place < told.places; place++) {
                if (cropOf[place] == crop) {
                    courts |= 1 << holderOf[place];
                }
            }
            return courts;
        }

        int priceAt(int place) {
            int crop = cropOf[place];
            return crop >= 0 && crop < told.crops ? told.priceOf[crop] : 1;
        }

        int earnedAt(int place) {
            int income = yieldOf[place];
            if (cropOf[place] != NONE) {
                int growers = Integer.bitCount(growersOf(cropOf[place]));
                income = income * priceAt(place) / Math.max(1, growers);
            }
            return income - told.garrisonOf[place];
        }

        int earnedBy(int court) {
            int earned = 0;
            for (int place = 0; place < told.places; place++) {
                if (holderOf[place] == court) {
                    earned += earnedAt(place);
                }
            }
            return earned;
        }

        int allYields() {
            int all = 0;
            for (int place = 0; place < told.places; place++) {
                all += yieldOf[place];
            }
            return all;
        }

        int worthTo(int court, int place) {
            int belief = told.believed(court, place);
            if (!told.worthBy.isTold) {
                return yieldOf[place] * belief / 100;
            }
            setLights(court, place, belief);
            return within(-99999, told.worthBy.reckon(lights), 99999);
        }

        /** A year passes: what all places earned. */
        int passYear() {
            int all = 0;
            for (int court = 0; court < told.courts; court++) {
                int earned = earnedBy(court);
                goldOf[court] += earned;
                all += earned;
            }
            for (int place = 0; place < told.places; place++) {
                int growth = within(-9, growthAt(place), 9);
                yieldOf[place] = within(0, yieldOf[place] + growth, 99);
            }
            seed = (seed * 137 + 71) % 1000;
            strike();
            year++;
            return all;
        }

        private int growthAt(int place) {
            if (!told.growBy.isTold) {
                return 0;
            }
            setLights(holderOf[place], place, 100);
            return told.growBy.reckon(lights);
        }

        private void strike() {
            if (told.places > 0 && seed % 100 < told.storm) {
                int place = seed % told.places;
                yieldOf[place] = Math.max(0, yieldOf[place] - told.stormLoss);
            }
        }

        /** In the order in which the formulas' words stand in Reader.WORDS. */
        private void setLights(int court, int place, int belief) {
            lights[0] = yieldOf[place];
            lights[1] = belief;
            lights[2] = told.harbourOf[place];
            lights[3] = told.garrisonOf[place];
            lights[4] = priceAt(place);
            lights[5] = Integer.bitCount(placesOf(court));
            lights[6] = year;
        }
    }

    /** The moments ahead of each act that is kept, and those that were taken back, in a round of rows. */
    private static final class History {
        private static final int MOST = 40;

        final int[] rows = new int[(MOST + 1) * Moment.CELLS];
        int first;
        int done;
        int undone;

        void forget() {
            first = 0;
            done = 0;
            undone = 0;
        }

        /** To be called ahead of an act. */
        void keep(Moment moment) {
            if (done >= MOST) {
                first = (first + 1) % (MOST + 1);
                done = MOST - 1;
            }
            moment.writeTo(rows, rowAt(done));
            done++;
            undone = 0;
        }

        boolean takeBack(Moment moment) {
            if (done == 0) {
                return false;
            }
            moment.writeTo(rows, rowAt(done));
            done--;
            undone++;
            moment.readFrom(rows, rowAt(done));
            return true;
        }

        boolean doAgain(Moment moment) {
            if (undone == 0) {
                return false;
            }
            done++;
            undone--;
            moment.readFrom(rows, rowAt(done));
            return true;
        }

        private int rowAt(int i) {
            return (first + i) % (MOST + 1) * Moment.CELLS;
        }
    }

    /** What the latest call that left numbers left. */
    private static final class Row {
        final int[] numbers = new int[MOST_PLACES];
        int size;

        void empty() {
            size = 0;
        }

        void add(int number) {
            if (size < numbers.length) {
                numbers[size] = number;
                size++;
            }
        }

        void fill(int[] from, int count) {
            empty();
            for (int i = 0; i < count && i < from.length; i++) {
                add(from[i]);
            }
        }
    }

    /** Swaps, rings and parts, by what each place was worth to each court when it was last weighed. */
    private static final class Bargains {
        private static final int MOST_HAGGLED = 20;

        int courts;
        int places;
        final int[] worths = new int[MOST_COURTS * MOST_PLACES];
        final int[] holders = new int[MOST_PLACES];
        int swapGains;
        int swapLow;
        int swapHigh;
        final int[] gifts = new int[MOST_COURTS];
        final int[] ringGifts = new int[MOST_COURTS];
        int ringGains;
        int ringSize;
        int part;
        int lesserWorth;
        int bothWorth;

        void weigh(Moment moment) {
            courts = moment.told.courts;
            places = moment.told.places;
            for (int place = 0; place < places; place++) {
                holders[place] = moment.holderOf[place];
                for (int court = 0; court < courts; court++) {
                    worths[court * MOST_PLACES + place] = moment.worthTo(court, place);
                }
            }
        }

        int worthOf(int court, int place) {
            return worths[court * MOST_PLACES + place];
        }

        int worthOfSet(int court, int set) {
            int together = 0;
            for (int place = 0; place < places; place++) {
                if ((set >> place & 1) != 0) {
                    together += worthOf(court, place);
                }
            }
            return together;
        }

        int dearestCourt(int place) {
            int dearest = 0;
            for (int court = 1; court < courts; court++) {
                if (worthOf(court, place) > worthOf(dearest, place)) {
                    dearest = court;
                }
            }
            return dearest;
        }

        /** Whether there is a swap by which neither court is worse; the best one is kept then. */
        boolean findSwap() {
            boolean found = false;
            for (int low = 0; low < places; low++) {
                for (int high = low + 1; high < places; high++) {
                    if (harmsNone(low, high)) {
                        int gains = swapGain(low, high) + swapGain(high, low);
                        if (!found || gains > swapGains) {
                            found = true;
                            swapGains = gains;
                            swapLow = low;
                            swapHigh = high;
                        }
                    }
                }
            }
            return found;
        }

        int countSwaps() {
            int count = 0;
            for (int low = 0; low < places; low++) {
                for (int high = low + 1; high < places; high++) {
                    if (harmsNone(low, high)) {
                        count++;
                    }
                }
            }
            return count;
        }

        /** How many swaps are made until none gains any more, NONE if that takes too many. */
        int settle() {
            for (int made = 0; made <= MOST_HAGGLED; made++) {
                if (!findSwap() || swapGains <= 0) {
                    return made;
                }
                int court = holders[swapLow];
                holders[swapLow] = holders[swapHigh];
                holders[swapHigh] = court;
            }
            return NONE;
        }

        private boolean harmsNone(int place, int other) {
            return holders[place] != holders[other] && swapGain(place, other) >= 0 && swapGain(other, place) >= 0;
        }

        private int swapGain(int given, int got) {
            int court = holders[given];
            return worthOf(court, got) - worthOf(court, given);
        }

        /** The gains of the best ring, whose gifts are kept; GAP if there is none. */
        int findRing() {
            ringGains = GAP;
            ringSize = 0;
            chooseGifts(0, 0);
            return ringGains;
        }

        // Gifts are chosen in the order by which the first of like rings counts: a later one must be better.
        private void chooseGifts(int court, int givers) {
            if (court >= courts) {
                if (givers >= 2) {
                    tryGifts(givers);
                }
                return;
            }
            gifts[court] = NONE;
            chooseGifts(court + 1, givers);
            for (int place = 0; place < places; place++) {
                if (holders[place] == court) {
                    gifts[court] = place;
                    chooseGifts(court + 1, givers + 1);
                }
            }
        }

        private void tryGifts(int givers) {
            int first = 0;
            for (int court = courts - 1; court >= 0; court--) {
                if (gifts[court] != NONE) {
                    first = court;
                }
            }
            int gains = closeRound(first, first, 1 << first);
            if (gains == GAP || gains < ringGains || gains == ringGains && givers >= ringSize) {
                return;
            }
            ringGains = gains;
            ringSize = givers;
            System.arraycopy(gifts, 0, ringGifts, 0, MOST_COURTS);
        }

        /** The most that is gained from the last one's gift on until it is the first one's turn; GAP if one is worse. */
        private int closeRound(int first, int last, int placed) {
            int most = GAP;
            boolean isClosed = true;
            for (int court = 0; court < courts; court++) {
                if (gifts[court] != NONE && (placed >> court & 1) == 0) {
                    isClosed = false;
                    int gain = gainByGift(court, last);
                    int rest = gain < 0 ? GAP : closeRound(first, court, placed | 1 << court);
                    if (rest != GAP) {
                        most = Math.max(most, gain + rest);
                    }
                }
            }
            if (!isClosed) {
                return most;
            }
            int gain = gainByGift(first, last);
            return gain < 0 ? GAP : gain;
        }

        private int gainByGift(int court, int giver) {
            return worthOf(court, gifts[giver]) - worthOf(court, gifts[court]);
        }

        /** The part for the first court, the lesser part's worth, and that of both. */
        void divideSet(int court, int other, int set) {
            boolean found = false;
            for (int own = 0; own <= set; own++) {
                if ((own & ~set) == 0) {
                    int ownWorth = worthOfSet(court, own);
                    int otherWorth = worthOfSet(other, set & ~own);
                    int lesser = Math.min(ownWorth, otherWorth);
                    int both = ownWorth + otherWorth;
                    if (!found || lesser > lesserWorth || lesser == lesserWorth && both > bothWorth) {
                        found = true;
                        part = own;
                        lesserWorth = lesser;
                        bothWorth = both;
                    }
                }
            }
        }

        /** Whether there are lots that are worth enough; the part and its worth to the giver are kept then. */
        boolean findLots(int court, int other, int least) {
            int held = 0;
            for (int place = 0; place < places; place++) {
                held |= holders[place] == court ? 1 << place : 0;
            }
            boolean found = false;
            for (int set = 0; set <= held; set++) {
                if ((set & ~held) == 0 && worthOfSet(other, set) >= least) {
                    int given = worthOfSet(court, set);
                    int more = Integer.bitCount(set) - Integer.bitCount(part);
                    if (!found || more < 0 || more == 0 && given < lesserWorth) {
                        found = true;
                        part = set;
                        lesserWorth = given;
                    }
                }
            }
            return found;
        }
    }

    /** What was said of the place in the secret article, each with the times at which it was told and untold. */
    private static final class Secrets {
        static final int YIELDS = 0;
        static final int HARBOUR = 1;
        static final int HOLDER = 2;
        static final int CROP = 3;
        static final int[] QUESTIONS = {HARBOUR, HOLDER, CROP};
        private static final int MOST = 30;
        private static final int NEVER = -1;

        final int[] sorts = new int[MOST];
        final int[] values = new int[MOST];
        final boolean[] truths = new boolean[MOST];
        final int[] toldAt = new int[MOST];
        final int[] untoldAt = new int[MOST];
        int size;

        void forget() {
            size = 0;
        }

        int tell(int sort, int value, boolean is, int time) {
            if (size >= MOST) {
                return NONE;
            }
            sorts[size] = sort;
            values[size] = value;
            truths[size] = is;
            toldAt[size] = time;
            untoldAt[size] = NEVER;
            size++;
            return size - 1;
        }

        boolean takeAway(int said, int time) {
            if (said < 0 || said >= size || untoldAt[said] != NEVER) {
                return false;
            }
            untoldAt[said] = time;
            return true;
        }

        int fitting(Moment moment, int k) {
            int places = 0;
            for (int place = 0; place < moment.told.places; place++) {
                if (fitsAll(moment, place, k)) {
                    places |= 1 << place;
                }
            }
            return places;
        }

        private boolean fitsAll(Moment moment, int place, int k) {
            for (int said = 0; said < size && said < MOST; said++) {
                if (counts(said, k) && isSo(said, moment, place) != truths[said]) {
                    return false;
                }
            }
            return true;
        }

        private boolean counts(int said, int k) {
            return toldAt[said] <= k && (untoldAt[said] == NEVER || untoldAt[said] > k);
        }

        private boolean isSo(int said, Moment moment, int place) {
            if (sorts[said] == YIELDS) {
                return moment.yieldOf[place] >= values[said];
            }
            return answerOf(sorts[said], moment, place) == values[said];
        }

        private static int answerOf(int sort, Moment moment, int place) {
            if (sort == HARBOUR) {
                return moment.told.harbourOf[place];
            }
            return sort == HOLDER ? moment.holderOf[place] : moment.cropOf[place];
        }

        /** How many of some places are left at the most when a question about one of them is answered. */
        int mostLeft(Moment moment, int set, int sort) {
            int most = 0;
            for (int place = 0; place < moment.told.places; place++) {
                int left = 0;
                for (int other = 0; other < moment.told.places; other++) {
                    if ((set >> other & 1) != 0 && answerOf(sort, moment, other) == answerOf(sort, moment, place)) {
                        left++;
                    }
                }
                most = Math.max(most, left);
            }
            return most;
        }
    }

    /** Reads a world's text, token by token, and stops at its first fault. */
    private static final class Reader {
        private static final int NO_TOKEN = 1;
        private static final int MISPLACED = 2;
        private static final int TWICE = 3;
        private static final int WRONG_NUMBER = 4;
        private static final int UNKNOWN = 5;

        // Kinds of tokens: a sign is its own kind, a word of WORDS is WORD and its number.
        private static final int END = 0;
        private static final int BAD = 1;
        private static final int NUMBER = 2;
        private static final int NAME = 3;
        private static final String SIGNS = ";()<>=+-*/%";
        private static final int WORD = 128;
        private static final int WORD_COUNT = 21;
        private static final String WORDS = "yield belief harbour garrison price held year court crop place believes worth grow storm draw gold of grows or and not ";
        private static final int YIELD = WORD;
        private static final int HARBOUR = WORD + 2;
        private static final int GARRISON = WORD + 3;
        private static final int PRICE = WORD + 4;
        private static final int COURT = WORD + 7;
        private static final int CROP = WORD + 8;
        private static final int PLACE = WORD + 9;
        private static final int BELIEVES = WORD + 10;
        private static final int WORTH = WORD + 11;
        private static final int GROW = WORD + 12;
        private static final int STORM = WORD + 13;
        private static final int DRAW = WORD + 14;
        private static final int GOLD = WORD + 15;
        private static final int OF = WORD + 16;
        private static final int GROWS = WORD + 17;
        private static final int OR = WORD + 18;
        private static final int AND = WORD + 19;
        private static final int NOT = WORD + 20;

        private static final int LONGEST_WORD = 8;
        private static final int LONGEST_NUMBER = 4;
        private static final int MOST_NESTED = 7;
        private static final int MOST_UNITS = 60;

        // How tightly what joins two parts of a formula holds them.
        private static final int LOOSEST = 0;
        private static final int RELATION = 2;
        private static final int TIGHTEST = 4;

        private final long[] words;
        private final long[] courtNames;
        private final long[] cropNames;
        private final long[] placeNames;
        private final Tape tape;
        private final byte[] bytes;
        private int end;
        private Told into;
        private Formula formula;
        private int next;
        private int at;
        private int kind;
        private long word;
        private int number;
        int fault;
        int faultAt;

        Reader(Tape text, Told facts) {
            tape = text;
            bytes = text.bytes;
            into = facts;
            formula = facts.worthBy;
            words = packAll(WORDS);
            courtNames = new long[MOST_COURTS];
            cropNames = new long[MOST_CROPS];
            placeNames = new long[MOST_PLACES];
            faultAt = NONE;
        }

        /** Whether the text is a world; what it tells is put into the row of facts. */
        boolean read(Told facts) {
            end = Math.min(tape.size, bytes.length);
            into = facts;
            into.forget();
            fault = 0;
            faultAt = NONE;
            next = 0;
            step();
            for (int i = 0; i < Tape.MOST && fault == 0 && kind != END; i++) {
                switch (kind) {
                    case COURT:
                        readCourt();
                        break;
                    case CROP:
                        readCrop();
                        break;
                    case PLACE:
                        readPlace();
                        break;
                    case BELIEVES:
                        readBelief();
                        break;
                    case WORTH:
                        readFormula(into.worthBy);
                        break;
                    case GROW:
                        readFormula(into.growBy);
                        break;
                    case STORM:
                        readStorm();
                        break;
                    case DRAW:
                        readDraw();
                        break;
                    default:
                        fail(MISPLACED);
                        break;
                }
                take(';');
            }
            return fault == 0;
        }

        private void readCourt() {
            int court = into.courts;
            if (court >= MOST_COURTS) {
                fail(MISPLACED);
                return;
            }
            step();
            takeNewName(courtNames, court);
            take(GOLD);
            into.goldOf[court] = takeNumber(0, 999);
            into.courts++;
        }

        private void readCrop() {
            int crop = into.crops;
            if (crop >= MOST_CROPS) {
                fail(MISPLACED);
                return;
            }
            step();
            takeNewName(cropNames, crop);
            take(PRICE);
            into.priceOf[crop] = takeNumber(1, 9);
            into.crops++;
        }

        private void readPlace() {
            int place = into.places;
            if (place >= MOST_PLACES) {
                fail(MISPLACED);
                return;
            }
            step();
            takeNewName(placeNames, place);
            take(OF);
            into.holderOf[place] = takeKnownName(courtNames, into.courts);
            take(YIELD);
            into.yieldOf[place] = takeNumber(0, 99);
            into.harbourOf[place] = takeIfThere(HARBOUR) ? 1 : 0;
            into.cropOf[place] = takeIfThere(GROWS) ? takeKnownName(cropNames, into.crops) : NONE;
            into.garrisonOf[place] = takeIfThere(GARRISON) ? takeNumber(0, 20) : 0;
            into.places++;
        }

        private void readBelief() {
            step();
            int court = takeKnownName(courtNames, into.courts);
            int place = findName(placeNames, into.places);
            if (court != NONE && place != NONE && into.isBelieved(court, place)) {
                fail(TWICE);
            }
            takeKnownName(placeNames, into.places);
            int belief = takeNumber(0, 200);
            if (fault == 0) {
                into.believe(court, place, belief);
            }
        }

        private void readStorm() {
            if (into.stormIsTold) {
                fail(MISPLACED);
                return;
            }
            step();
            into.stormIsTold = true;
            into.storm = takeNumber(0, 100);
            take(OF);
            into.stormLoss = takeNumber(1, 99);
        }

        private void readDraw() {
            if (into.drawIsTold) {
                fail(MISPLACED);
                return;
            }
            step();
            into.drawIsTold = true;
            into.draw = takeNumber(0, 999);
        }

        private void readFormula(Formula told) {
            if (told.isTold) {
                fail(MISPLACED);
                return;
            }
            step();
            told.isTold = true;
            formula = told;
            readJoined(LOOSEST, 0);
        }

        /** Parts that are joined at this level or a tighter one, within so many nested ones. */
        private void readJoined(int level, int nested) {
            if (level > TIGHTEST) {
                readUnit(nested);
                return;
            }
            if (level == RELATION && kind == NOT) {
                readNegated(nested);
                return;
            }
            readJoined(level + 1, nested);
            int most = level == RELATION ? 1 : Formula.MOST_UNITS;
            for (int i = 0; i < most && fault == 0 && levelOf(kind) == level; i++) {
                int joint = jointOf(kind);
                step();
                readJoined(level + 1, nested);
                formula.add(joint);
            }
        }

        private void readNegated(int nested) {
            if (nested >= MOST_NESTED) {
                fail(MISPLACED);
                return;
            }
            step();
            readJoined(RELATION, nested + 1);
            formula.add(Formula.NOT);
        }

        private void readUnit(int nested) {
            boolean isLight = kind >= WORD && kind < WORD + Formula.LIGHTS;
            boolean isNested = kind == '(';
            int all = into.worthBy.units + into.growBy.units;
            if (!isLight && !isNested && kind != NUMBER
                    || formula.units >= Formula.MOST_UNITS || all >= MOST_UNITS
                    || isNested && nested >= MOST_NESTED) {
                fail(MISPLACED);
                return;
            }
            formula.units++;
            if (!isNested) {
                formula.add(isLight ? kind - WORD : Formula.LITERAL + number);
                step();
                return;
            }
            step();
            readJoined(LOOSEST, nested + 1);
            if (kind != ')') {
                fail(MISPLACED);
                return;
            }
            step();
        }

        private static int levelOf(int kind) {
            switch (kind) {
                case OR:
                    return LOOSEST;
                case AND:
                    return LOOSEST + 1;
                case '<':
                case '>':
                case '=':
                    return RELATION;
                case '+':
                case '-':
                    return RELATION + 1;
                case '*':
                case '/':
                case '%':
                    return TIGHTEST;
                default:
                    return NONE;
            }
        }

        private static int jointOf(int kind) {
            switch (kind) {
                case OR:
                    return Formula.OR;
                case AND:
                    return Formula.AND;
                case '<':
                    return Formula.LESS;
                case '>':
                    return Formula.MORE;
                case '=':
                    return Formula.SAME;
                case '+':
                    return Formula.PLUS;
                case '-':
                    return Formula.MINUS;
                case '*':
                    return Formula.TIMES;
                case '/':
                    return Formula.OVER;
                default:
                    return Formula.REST;
            }
        }

        // Behind a fault nothing is taken any more: what is looked for then can't hide the first one.
        private void take(int wanted) {
            if (kind != wanted) {
                fail(MISPLACED);
                return;
            }
            step();
        }

        private boolean takeIfThere(int wanted) {
            if (fault != 0 || kind != wanted) {
                return false;
            }
            step();
            return true;
        }

        /** The number that stands here; NONE if it can't, which is seen before the next token is looked at. */
        private int takeNumber(int least, int most) {
            boolean isNumber = kind == NUMBER;
            if (!isNumber || number < least || number > most) {
                fail(isNumber ? WRONG_NUMBER : MISPLACED);
                return NONE;
            }
            int taken = number;
            step();
            return taken;
        }

        private void takeNewName(long[] names, int count) {
            if (kind != NAME || findName(names, count) != NONE || count >= names.length) {
                fail(kind == NAME ? TWICE : MISPLACED);
                return;
            }
            names[count] = word;
            step();
        }

        private int takeKnownName(long[] names, int count) {
            int known = findName(names, count);
            if (known == NONE) {
                fail(kind == NAME ? UNKNOWN : MISPLACED);
                return NONE;
            }
            step();
            return known;
        }

        private int findName(long[] names, int count) {
            for (int i = 0; i < count && i < names.length; i++) {
                if (kind == NAME && names[i] == word) {
                    return i;
                }
            }
            return NONE;
        }

        // What is no token is that first of all, whatever was looked for there.
        private void fail(int what) {
            if (fault == 0) {
                fault = kind == BAD ? NO_TOKEN : what;
                faultAt = at;
            }
        }

        /** Goes on to the next token; behind a fault all stays. */
        private void step() {
            if (fault != 0) {
                return;
            }
            while (next < end && (bytes[next] == ' ' || bytes[next] == '\n')) {
                next++;
            }
            at = next;
            if (next >= end) {
                kind = END;
                return;
            }
            byte sign = bytes[next];
            if (sign >= 'a' && sign <= 'z') {
                stepOverWord();
            } else if (sign >= '0' && sign <= '9') {
                stepOverNumber();
            } else {
                kind = sign > 0 && SIGNS.indexOf((char) sign) >= 0 ? sign : BAD;
                next++;
            }
        }

        private void stepOverWord() {
            word = 0;
            while (next < end && bytes[next] >= 'a' && bytes[next] <= 'z') {
                word = packed(word, bytes[next]);
                next++;
            }
            kind = NAME;
            for (int i = 0; i < words.length; i++) {
                if (words[i] == word) {
                    kind = WORD + i;
                }
            }
            if (next - at > LONGEST_WORD) {
                kind = BAD;
            }
        }

        private void stepOverNumber() {
            number = 0;
            while (next < end && bytes[next] >= '0' && bytes[next] <= '9') {
                number = number * 10 + bytes[next] - '0';
                next++;
            }
            boolean hasLetterBehind = next < end && bytes[next] >= 'a' && bytes[next] <= 'z';
            kind = next - at > LONGEST_NUMBER || hasLetterBehind ? BAD : NUMBER;
        }

        /** A word of eight letters at most has a number of its own, by which it is known. */
        private static long packed(long word, int letter) {
            return word * 27 + letter - 'a' + 1;
        }

        private static long[] packAll(String list) {
            long[] all = new long[WORD_COUNT];
            int count = 0;
            for (int i = 0; i < list.length() && count < WORD_COUNT; i++) {
                if (list.charAt(i) == ' ') {
                    count++;
                } else {
                    all[count] = packed(all[count], list.charAt(i));
                }
            }
            return all;
        }
    }
}
