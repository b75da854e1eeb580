import java.util.Arrays;

/**
 * A placing machine: a board with places, feeders in slots, a head with a few nozzles, a plan of
 * tours, and runs of that plan. The words in capitals are those of the document.
 */
public final class PlacingDesk {
    public static final int NONE = -1;

    private static final int KINDS = 8;
    private static final int PLACES = 10;
    private static final int SLOTS = 8;
    private static final int SLOT_STEP = 20;
    /** The greatest x and y on the board; the CAMERA is at (EDGE, 0). */
    private static final int EDGE = 199;
    /** What a PLACE of the PLAN counts more if a TOUR begins with it. */
    private static final int BEGINS = 16;
    private static final int MISS_NUMBERS = 200;
    /** Far above what TO LAY can need: each exchange lessens TICKS, which are some thousands. */
    private static final int MOST_EXCHANGES = 1000000;

    private final Board board;
    private final Slots slots;
    private final Gear gear;
    private final Row row;
    private final Reckoner reckoner;
    private final Finder finder;
    private final Trip trip;

    public PlacingDesk() {
        board = new Board();
        slots = new Slots();
        gear = new Gear();
        row = new Row();
        reckoner = new Reckoner(board, slots, gear, row);
        finder = new Finder(board, slots, gear);
        trip = new Trip(board, slots, gear, row);
    }

    public boolean kind(int k, int size, int height, int nozzle, boolean fine) {
        if (!isWithin(k, 0, KINDS - 1) || !isWithin(size, 1, 20) || !isWithin(height, 1, 9)
                || !isWithin(nozzle, 0, 2) || board.hasPlaceOf(k)) {
            return false;
        }
        board.size[k] = size;
        board.height[k] = height;
        board.nozzle[k] = nozzle;
        board.fine[k] = fine;
        return true;
    }

    public int place(int x, int y, int kind) {
        if (!isWithin(x, 0, EDGE) || !isWithin(y, 0, EDGE) || !isWithin(kind, 0, KINDS - 1)) {
            return NONE;
        }
        int number = board.addPlace(x, y, kind);
        if (number != NONE) {
            dropPlan();
        }
        return number;
    }

    public boolean late(int p, int q) {
        if (!areTwoPlaces(p, q) || !board.addLate(p, q)) {
            return false;
        }
        dropPlan();
        return true;
    }

    public boolean feeder(int s, int kind, int parts) {
        if (!isWithin(s, 0, SLOTS - 1)) {
            return false;
        }
        if (kind == NONE) {
            slots.fill(s, NONE, 0);
            return true;
        }
        if (!isWithin(kind, 0, KINDS - 1) || !isWithin(parts, 0, 100)) {
            return false;
        }
        slots.fill(s, kind, parts);
        return true;
    }

    public boolean machine(int nozzles, int take, int set, int look, int change) {
        if (!isWithin(nozzles, 1, 4) || !isWithin(take, 1, 20) || !isWithin(set, 1, 20)
                || !isWithin(look, 0, 20) || !isWithin(change, 0, 50)) {
            return false;
        }
        gear.nozzles = nozzles;
        gear.take = take;
        gear.set = set;
        gear.look = look;
        gear.change = change;
        dropPlan();
        return true;
    }

    public int ahead(int p, int q) {
        if (!areTwoPlaces(p, q)) {
            return NONE;
        }
        return hasBit(board.before[q], p) ? 1 : 0;
    }

    public int then(int p, boolean begins) {
        if (!isPlace(p) || row.holds(p)) {
            return NONE;
        }
        row.append(p, begins);
        trip.exists = false;
        return row.length;
    }

    public void clear() {
        dropPlan();
    }

    public int good() {
        return reckoner.isGood() ? 1 : 0;
    }

    public int ticks() {
        return reckoner.isGood() ? reckoner.reckon() : NONE;
    }

    public int best() {
        int found = finder.find();
        if (found != NONE) {
            finder.writeTo(row);
            trip.exists = false;
        }
        return found;
    }

    public int plan(int i) {
        return isWithin(i, 0, row.length - 1) ? row.codes[i] : NONE;
    }

    public int lay() {
        if (!reckoner.isGood()) {
            return NONE;
        }
        // The RUN goes even if no exchange is made: only a refused call keeps it.
        trip.exists = false;
        int exchanges = 0;
        while (exchanges < MOST_EXCHANGES && reckoner.makeBestExchange()) {
            exchanges++;
        }
        return exchanges;
    }

    public boolean miss(int n) {
        if (!isWithin(n, 1, MISS_NUMBERS) || trip.missNumbers[n]) {
            return false;
        }
        trip.missNumbers[n] = true;
        return true;
    }

    public boolean again(int n) {
        if (!isWithin(n, 0, 3)) {
            return false;
        }
        trip.retries = n;
        return true;
    }

    public int run() {
        if (!reckoner.isGood()) {
            return NONE;
        }
        if (!trip.exists || trip.ended) {
            trip.begin();
        }
        trip.goOn();
        return trip.head.ticks;
    }

    public int told(int what) {
        return trip.exists ? trip.tell(what) : NONE;
    }

    public int state(int p) {
        if (!isPlace(p) || !trip.exists) {
            return NONE;
        }
        if (hasBit(trip.setPlaces, p)) {
            return 1;
        }
        return hasBit(trip.missing, p) ? 2 : 0;
    }

    public int slot(int s, int what) {
        if (!isWithin(s, 0, SLOTS - 1)) {
            return NONE;
        }
        switch (what) {
            case 0:
                return slots.kinds[s];
            case 1:
                return slots.parts[s];
            default:
                return NONE;
        }
    }

    public int count(int what) {
        switch (what) {
            case 0:
                return board.places;
            case 1:
                return row.length;
            case 2:
                return row.tours();
            case 3:
                return gear.nozzles;
            case 4:
                return board.pairs();
            default:
                return NONE;
        }
    }

    private boolean isPlace(int p) {
        return isWithin(p, 0, board.places - 1);
    }

    private boolean areTwoPlaces(int p, int q) {
        return isPlace(p) && isPlace(q) && p != q;
    }

    private void dropPlan() {
        row.empty();
        trip.exists = false;
    }

    private static boolean isWithin(int number, int least, int most) {
        return number >= least && number <= most;
    }

    private static boolean hasBit(int bits, int i) {
        return ((bits >> i) & 1) != 0;
    }

    /** The ticks of a MOVE. */
    private static int way(int x, int y, int toX, int toY) {
        return Math.max(Math.abs(toX - x), Math.abs(toY - y));
    }

    /** The KINDS, the PLACES, and what is AHEAD of what. Sets of PLACES are bits of a number. */
    private static final class Board {
        final int[] size = new int[KINDS];
        final int[] height = new int[KINDS];
        final int[] nozzle = new int[KINDS];
        final boolean[] fine = new boolean[KINDS];
        int places = 0;
        final int[] x = new int[PLACES];
        final int[] y = new int[PLACES];
        final int[] kinds = new int[PLACES];
        /** Of each PLACE, those that are AHEAD of it. */
        final int[] before = new int[PLACES];
        /** Of each PLACE, those that it was told to be LATE behind: of these alone a RUN asks. */
        final int[] lateBehind = new int[PLACES];

        Board() {
            Arrays.fill(size, 1);
            Arrays.fill(height, 1);
        }

        boolean hasPlaceOf(int kind) {
            for (int p = 0; p < places; p++) {
                if (kinds[p] == kind) {
                    return true;
                }
            }
            return false;
        }

        int nozzleOf(int p) {
            return nozzle[kinds[p]];
        }

        boolean isFine(int p) {
            return fine[kinds[p]];
        }

        int addPlace(int atX, int atY, int kind) {
            if (places >= PLACES) {
                return NONE;
            }
            int lower = 0;
            int higher = 0;
            for (int q = 0; q < places; q++) {
                int sum = size[kinds[q]] + size[kind];
                int apart = way(x[q], y[q], atX, atY);
                if (apart < sum) {
                    return NONE;
                }
                if (apart <= sum + 2 && height[kinds[q]] < height[kind]) {
                    lower |= 1 << q;
                }
                if (apart <= sum + 2 && height[kinds[q]] > height[kind]) {
                    higher |= 1 << q;
                }
            }
            if ((withAllBefore(lower) & higher) != 0) {
                return NONE;
            }
            return putPlace(atX, atY, kind, lower, higher);
        }

        private int putPlace(int atX, int atY, int kind, int lower, int higher) {
            int p = places;
            places++;
            x[p] = atX;
            y[p] = atY;
            kinds[p] = kind;
            before[p] = lower;
            for (int q = 0; q < p; q++) {
                if (hasBit(higher, q)) {
                    before[q] |= 1 << p;
                }
            }
            return p;
        }

        boolean addLate(int p, int q) {
            if (hasBit(lateBehind[p], q) || hasBit(withAllBefore(1 << q), p)) {
                return false;
            }
            lateBehind[p] |= 1 << q;
            before[p] |= 1 << q;
            return true;
        }

        /** These PLACES and all that must be set ahead of them, over however many others. */
        private int withAllBefore(int some) {
            int all = some;
            for (int round = 0; round < PLACES; round++) {
                int more = all;
                for (int p = 0; p < places; p++) {
                    if (hasBit(all, p)) {
                        more |= before[p];
                    }
                }
                all = more;
            }
            return all;
        }

        int pairs() {
            int pairs = 0;
            for (int p = 0; p < places; p++) {
                pairs += Integer.bitCount(before[p]);
            }
            return pairs;
        }
    }

    /** The SLOTS and the FEEDERS in them; an empty SLOT has the KIND NONE and no parts. */
    private static final class Slots {
        final int[] kinds = new int[SLOTS];
        final int[] parts = new int[SLOTS];

        Slots() {
            Arrays.fill(kinds, NONE);
        }

        void fill(int s, int kind, int number) {
            kinds[s] = kind;
            parts[s] = number;
        }

        /** THE SLOT of a KIND, or NONE. */
        int lowestOf(int kind) {
            for (int s = 0; s < SLOTS; s++) {
                if (kinds[s] == kind) {
                    return s;
                }
            }
            return NONE;
        }

        void exchange(int s, int t) {
            int kind = kinds[s];
            int number = parts[s];
            fill(s, kinds[t], parts[t]);
            fill(t, kind, number);
        }
    }

    /** The numbers of THE MACHINE. */
    private static final class Gear {
        int nozzles = 2;
        int take = 2;
        int set = 3;
        int look = 4;
        int change = 10;
    }

    /** Where the HEAD is, what it bears, and the ticks that it has used. */
    private static final class Head {
        int x = 0;
        int y = 0;
        int nozzle = 0;
        int ticks = 0;

        void restart() {
            x = 0;
            y = 0;
            nozzle = 0;
            ticks = 0;
        }

        void spend(int more) {
            ticks += more;
        }

        void moveTo(int toX, int toY) {
            ticks += way(x, y, toX, toY);
            x = toX;
            y = toY;
        }

        void bear(int wanted, int change) {
            if (nozzle != wanted) {
                nozzle = wanted;
                ticks += change;
            }
        }
    }

    /** The PLAN. */
    private static final class Row {
        final int[] codes = new int[PLACES];
        int length = 0;
        private int held = 0;

        void empty() {
            length = 0;
            held = 0;
        }

        boolean holds(int p) {
            return hasBit(held, p);
        }

        void append(int p, boolean begins) {
            if (length >= PLACES) {
                return;
            }
            codes[length] = begins || length == 0 ? p + BEGINS : p;
            held |= 1 << p;
            length++;
        }

        int placeAt(int i) {
            return codes[i] % BEGINS;
        }

        boolean beginsAt(int i) {
            return codes[i] >= BEGINS;
        }

        /** The index behind the TOUR that begins at i. */
        int endOfTour(int i) {
            for (int j = i + 1; j < length; j++) {
                if (beginsAt(j)) {
                    return j;
                }
            }
            return length;
        }

        int tours() {
            int tours = 0;
            for (int i = 0; i < length; i++) {
                if (beginsAt(i)) {
                    tours++;
                }
            }
            return tours;
        }
    }

    /** Whether the PLAN is GOOD, its TICKS, and the exchanges that lessen them. */
    private static final class Reckoner {
        private final Board board;
        private final Slots slots;
        private final Gear gear;
        private final Row row;
        private final Head head = new Head();
        /** How many PLACES of the TOUR in hand want a part of each SLOT. */
        private final int[] wants = new int[SLOTS];

        Reckoner(Board board, Slots slots, Gear gear, Row row) {
            this.board = board;
            this.slots = slots;
            this.gear = gear;
            this.row = row;
        }

        boolean isGood() {
            // No PLACE comes into the PLAN twice, so that the length tells whether all are in it.
            return row.length == board.places && isInOrder() && hasGoodTours() && hasAllFeeders();
        }

        private boolean isInOrder() {
            int done = 0;
            for (int i = 0; i < row.length; i++) {
                int p = row.placeAt(i);
                if ((board.before[p] & ~done) != 0) {
                    return false;
                }
                done |= 1 << p;
            }
            return true;
        }

        private boolean hasGoodTours() {
            int inTour = 0;
            for (int i = 0; i < row.length; i++) {
                if (i == 0 || row.beginsAt(i)) {
                    inTour = 1;
                    continue;
                }
                inTour++;
                if (inTour > gear.nozzles
                        || board.nozzleOf(row.placeAt(i)) != board.nozzleOf(row.placeAt(i - 1))) {
                    return false;
                }
            }
            return true;
        }

        private boolean hasAllFeeders() {
            for (int p = 0; p < board.places; p++) {
                if (slots.lowestOf(board.kinds[p]) == NONE) {
                    return false;
                }
            }
            return true;
        }

        /** TICKS of a PLAN that is GOOD. */
        int reckon() {
            head.restart();
            for (int i = 0; i < row.length; i++) {
                if (row.beginsAt(i)) {
                    reckonTour(i, row.endOfTour(i));
                }
            }
            return head.ticks;
        }

        private void reckonTour(int from, int end) {
            head.bear(board.nozzleOf(row.placeAt(from)), gear.change);
            int fines = noteWants(from, end);
            for (int s = 0; s < SLOTS; s++) {
                if (wants[s] > 0) {
                    head.moveTo(SLOT_STEP * s, 0);
                    head.spend(wants[s] * gear.take);
                }
            }
            if (fines > 0) {
                head.moveTo(EDGE, 0);
                head.spend(fines * gear.look);
            }
            for (int i = from; i < end; i++) {
                int p = row.placeAt(i);
                head.moveTo(board.x[p], board.y[p]);
                head.spend(gear.set);
            }
        }

        /** Fills wants for a TOUR and answers how many of its PLACES are FINE. */
        private int noteWants(int from, int end) {
            Arrays.fill(wants, 0);
            int fines = 0;
            for (int i = from; i < end; i++) {
                int p = row.placeAt(i);
                int s = slots.lowestOf(board.kinds[p]);
                if (s != NONE) {
                    wants[s]++;
                }
                if (board.isFine(p)) {
                    fines++;
                }
            }
            return fines;
        }

        /** One step of TO LAY, with a PLAN that is GOOD; false if no exchange lessens its TICKS. */
        boolean makeBestExchange() {
            int fewest = reckon();
            int first = NONE;
            int second = NONE;
            for (int s = 0; s < SLOTS; s++) {
                for (int t = s + 1; t < SLOTS; t++) {
                    slots.exchange(s, t);
                    int after = reckon();
                    slots.exchange(s, t);
                    if (after < fewest) {
                        fewest = after;
                        first = s;
                        second = t;
                    }
                }
            }
            if (first == NONE) {
                return false;
            }
            slots.exchange(first, second);
            return true;
        }
    }

    /**
     * THE BEST PLAN. From what is set already, where the HEAD is and its NOZZLE (both told by the
     * PLACE set last), the rest of the PLAN is a choice of its own; so the best next TOUR is found
     * for each such state, the fuller sets of PLACES first.
     *
     * A TOUR's key is its PLACES as four digits, with END behind the last. Of two rows with like
     * beginnings that which goes on in the same TOUR is the lesser, as a TOUR's beginning counts 16
     * more: END is above all PLACES, and the lesser key is the lesser row.
     */
    private static final class Finder {
        private static final int MOST = 7;
        private static final int SETS = 1 << MOST;
        private static final int DIGIT_BITS = 3;
        private static final int DIGITS = 4;
        private static final int END = 7;
        private static final int KEY_BITS = DIGIT_BITS * DIGITS;
        private static final int EMPTY_KEY = (1 << KEY_BITS) - 1;
        /** Stands for the PLACE set last when there is none yet. */
        private static final int START = 7;
        private static final int LASTS = 8;
        /** Above all ticks with their keys: no TOUR has been found yet. */
        private static final int UNFOUND = 0x7fffffff;

        private final Board board;
        private final Slots slots;
        private final Gear gear;
        private int full = 0;
        private final int[] slotX = new int[MOST];
        /** Of a TOUR's set: its ticks from its first SLOT to its leaving for its first PLACE, SETS too. */
        private final int[] fixed = new int[SETS];
        /** Of a TOUR's set: the x of its first SLOT, and the x from where it goes to its first PLACE. */
        private final int[] entryX = new int[SETS];
        private final int[] leaveX = new int[SETS];
        /** Of what is set and the last of it: the fewest ticks of the rest, with the next TOUR's key. */
        private final int[] rest = new int[SETS * LASTS];

        Finder(Board board, Slots slots, Gear gear) {
            this.board = board;
            this.slots = slots;
            this.gear = gear;
        }

        /** The TICKS of THE BEST PLAN, or NONE. */
        int find() {
            if (board.places < 1 || board.places > MOST || !findSlots()) {
                return NONE;
            }
            full = (1 << board.places) - 1;
            for (int set = 1; set <= full; set++) {
                measure(set);
            }
            Arrays.fill(rest, UNFOUND);
            for (int last = 0; last < LASTS; last++) {
                rest[full * LASTS + last] = 0;
            }
            for (int done = full - 1; done >= 0; done--) {
                if (isReachable(done)) {
                    tryTours(done);
                }
            }
            return rest[START] >> KEY_BITS;
        }

        private boolean findSlots() {
            for (int p = 0; p < board.places; p++) {
                int s = slots.lowestOf(board.kinds[p]);
                if (s == NONE) {
                    return false;
                }
                slotX[p] = SLOT_STEP * s;
            }
            return true;
        }

        private void measure(int set) {
            int lowest = EDGE;
            int highest = 0;
            int fines = 0;
            for (int p = 0; p < board.places; p++) {
                if (hasBit(set, p)) {
                    lowest = Math.min(lowest, slotX[p]);
                    highest = Math.max(highest, slotX[p]);
                    fines += board.isFine(p) ? 1 : 0;
                }
            }
            entryX[set] = lowest;
            leaveX[set] = fines > 0 ? EDGE : highest;
            fixed[set] = leaveX[set] - lowest + fines * gear.look
                    + Integer.bitCount(set) * (gear.take + gear.set);
        }

        private boolean isReachable(int done) {
            for (int p = 0; p < board.places; p++) {
                if (hasBit(done, p) && (board.before[p] & ~done) != 0) {
                    return false;
                }
            }
            return true;
        }

        private boolean canCome(int p, int done) {
            return !hasBit(done, p) && (board.before[p] & ~done) == 0;
        }

        private void tryTours(int done) {
            for (int p = 0; p < board.places; p++) {
                if (canCome(p, done)) {
                    extend(done, 1 << p, p, 0, withDigit(EMPTY_KEY, 0, p), 1);
                }
            }
        }

        /**
         * All TOURS that begin with this one, which has depth PLACES; inside is its way from its
         * first PLACE to its last.
         */
        private void extend(int done, int tour, int last, int inside, int key, int depth) {
            if (depth < gear.nozzles && depth < DIGITS) {
                for (int p = 0; p < board.places; p++) {
                    if (canCome(p, done | tour) && board.nozzleOf(p) == board.nozzleOf(last)) {
                        int on = inside + way(board.x[last], board.y[last], board.x[p], board.y[p]);
                        extend(done, tour | (1 << p), p, on, withDigit(key, depth, p), depth + 1);
                    }
                }
            }
            weigh(done, tour, last, inside, key);
        }

        /** Keeps this TOUR for each state of what is done in which it is the best so far. */
        private void weigh(int done, int tour, int last, int inside, int key) {
            int first = digit(key, 0);
            int after = rest[(done | tour) * LASTS + last] >> KEY_BITS;
            int ticks = fixed[tour] + way(leaveX[tour], 0, board.x[first], board.y[first])
                    + inside + after;
            int nozzle = board.nozzleOf(first);
            if (done == 0) {
                int change = nozzle == 0 ? 0 : gear.change;
                keep(START, ticks + change + entryX[tour], key);
                return;
            }
            for (int q = 0; q < board.places; q++) {
                if (hasBit(done, q)) {
                    int change = nozzle == board.nozzleOf(q) ? 0 : gear.change;
                    int toEntry = way(board.x[q], board.y[q], entryX[tour], 0);
                    keep(done * LASTS + q, ticks + change + toEntry, key);
                }
            }
        }

        private void keep(int state, int ticks, int key) {
            rest[state] = Math.min(rest[state], (ticks << KEY_BITS) | key);
        }

        private static int withDigit(int key, int i, int p) {
            return key - ((END - p) << digitShift(i));
        }

        private static int digit(int key, int i) {
            return (key >> digitShift(i)) & END;
        }

        private static int digitShift(int i) {
            return DIGIT_BITS * (DIGITS - 1 - i);
        }

        /** Writes the PLAN that find() has found. */
        void writeTo(Row row) {
            row.empty();
            int done = 0;
            int last = START;
            for (int tour = 0; tour < MOST && done != full; tour++) {
                int key = rest[done * LASTS + last];
                for (int i = 0; i < DIGITS && digit(key, i) != END; i++) {
                    last = digit(key, i);
                    done |= 1 << last;
                    row.append(last, i == 0);
                }
            }
        }
    }

    /** The RUN, and what is told of takes for all RUNS. */
    private static final class Trip {
        private final Board board;
        private final Slots slots;
        private final Gear gear;
        private final Row row;
        final Head head = new Head();
        final boolean[] missNumbers = new boolean[MISS_NUMBERS + 1];
        int retries = 1;
        boolean exists = false;
        boolean ended = false;
        /** The index in the PLAN of the TOUR that comes next. */
        private int next = 0;
        private int takes = 0;
        private int misses = 0;
        private int toursDone = 0;
        private int stoppedFor = NONE;
        int setPlaces = 0;
        int missing = 0;
        /** Of the TOUR in hand: the SLOT given to each WANTED PLACE, and for how many each SLOT is. */
        private final int[] given = new int[PLACES];
        private final int[] uses = new int[SLOTS];

        Trip(Board board, Slots slots, Gear gear, Row row) {
            this.board = board;
            this.slots = slots;
            this.gear = gear;
            this.row = row;
        }

        void begin() {
            exists = true;
            ended = false;
            head.restart();
            next = 0;
            takes = 0;
            misses = 0;
            toursDone = 0;
            setPlaces = 0;
            missing = 0;
        }

        void goOn() {
            stoppedFor = NONE;
            for (int i = next; i < row.length; i++) {
                if (!row.beginsAt(i)) {
                    continue;
                }
                if (!finishTour(i, row.endOfTour(i))) {
                    next = i;
                    return;
                }
                toursDone++;
            }
            ended = true;
        }

        int tell(int what) {
            switch (what) {
                case 0:
                    return head.ticks;
                case 1:
                    return takes;
                case 2:
                    return misses;
                case 3:
                    return Integer.bitCount(setPlaces);
                case 4:
                    return Integer.bitCount(missing);
                case 5:
                    return stoppedFor;
                case 6:
                    return toursDone;
                case 7:
                    return ended ? 1 : 0;
                default:
                    return NONE;
            }
        }

        /** Does a TOUR; false if the RUN stops in it. */
        private boolean finishTour(int from, int end) {
            // Done over when the RUN goes on: it then finds the same, as nothing was taken since.
            loseLatePlaces(from, end);
            if (!hasWanted(from, end)) {
                return true;
            }
            if (!giveSlots(from, end)) {
                return false;
            }
            takeParts(from, end);
            lookAtParts(from, end);
            setParts(from, end);
            return true;
        }

        private boolean isMissing(int p) {
            return hasBit(missing, p);
        }

        private boolean isLateBehindMissing(int p) {
            return (board.lateBehind[p] & missing) != 0;
        }

        /** In the order of the PLAN, so that what is LATE behind one of the same TOUR is seen too. */
        private void loseLatePlaces(int from, int end) {
            for (int i = from; i < end; i++) {
                int p = row.placeAt(i);
                if (isLateBehindMissing(p)) {
                    missing |= 1 << p;
                }
            }
        }

        private boolean hasWanted(int from, int end) {
            for (int i = from; i < end; i++) {
                if (!isMissing(row.placeAt(i))) {
                    return true;
                }
            }
            return false;
        }

        private boolean giveSlots(int from, int end) {
            Arrays.fill(uses, 0);
            for (int i = from; i < end; i++) {
                int p = row.placeAt(i);
                if (isMissing(p)) {
                    continue;
                }
                int s = slotWithPart(board.kinds[p]);
                if (s == NONE) {
                    stoppedFor = p;
                    return false;
                }
                given[p] = s;
                uses[s]++;
            }
            return true;
        }

        private int slotWithPart(int kind) {
            for (int s = 0; s < SLOTS; s++) {
                if (slots.kinds[s] == kind && slots.parts[s] > uses[s]) {
                    return s;
                }
            }
            return NONE;
        }

        private void takeParts(int from, int end) {
            head.bear(board.nozzleOf(row.placeAt(from)), gear.change);
            for (int s = 0; s < SLOTS; s++) {
                if (uses[s] > 0) {
                    head.moveTo(SLOT_STEP * s, 0);
                    takePartsOf(s, from, end);
                }
            }
        }

        private void takePartsOf(int s, int from, int end) {
            for (int i = from; i < end; i++) {
                int p = row.placeAt(i);
                if (!isMissing(p) && given[p] == s && !takesPart(s)) {
                    missing |= 1 << p;
                }
            }
        }

        /** TAKES for one PLACE, till one does not MISS; false if none of them has a part. */
        private boolean takesPart(int s) {
            for (int tries = 0; tries <= retries; tries++) {
                if (slots.parts[s] < 1) {
                    return false;
                }
                slots.parts[s]--;
                takes++;
                head.spend(gear.take);
                if (takes > MISS_NUMBERS || !missNumbers[takes]) {
                    return true;
                }
                misses++;
            }
            return false;
        }

        private void lookAtParts(int from, int end) {
            int fines = 0;
            for (int i = from; i < end; i++) {
                int p = row.placeAt(i);
                if (!isMissing(p) && board.isFine(p)) {
                    fines++;
                }
            }
            if (fines > 0) {
                head.moveTo(EDGE, 0);
                head.spend(fines * gear.look);
            }
        }

        private void setParts(int from, int end) {
            for (int i = from; i < end; i++) {
                int p = row.placeAt(i);
                if (isMissing(p)) {
                    continue;
                }
                if (isLateBehindMissing(p)) {
                    missing |= 1 << p;
                } else {
                    head.moveTo(board.x[p], board.y[p]);
                    head.spend(gear.set);
                    setPlaces |= 1 << p;
                }
            }
        }
    }
}
