/** Chairs in a hall that remember who was unkind over the soup, and tip. */
public final class ChairGrudge {
    public static final int UNKNOWN = -1, OUTSIDE = -2, STATE = -3, FULL = -4, NONE = -9;
    public static final long LOST = Long.MIN_VALUE;

    private static final int NO_FAULT = 0, NULL = 1, CAST = 2, INDEX = 3, SIZE = 4;
    private static final int BENCH = 1, THRONE = 2, KINDS = 3;
    private static final int EARS = 5, GRUDGES = 10;
    private static final int DINNERS = 20, MOST_CHAIRS = 5, MOST_GUESTS = 5, MOST_NOTES = 8;
    private static final int SHEETS = 4, LANES = 3, MOST_CELLS = 60;
    /** All slips as a set, and no chair: what a dinner is judged by when nothing is supposed. */
    private static final int ALL_SLIPS = -1, NO_CHAIR = -1;
    /** A price above all that five guests can cost by what is allowed. */
    private static final int DEAR = 100;

    private final Hall current;
    private final Notes slips;
    private final Notes butters;
    private final Notes readings;
    private final boolean[] wasBorne;
    private final Memory memory;
    private final Seating seating;
    private final Sheet[] sheets;
    private int traced;
    private int latestFault;

    public ChairGrudge() {
        current = new Hall();
        slips = new Notes();
        butters = new Notes();
        readings = new Notes();
        wasBorne = new boolean[MOST_NOTES];
        memory = new Memory(current, slips, butters);
        seating = new Seating(current, memory.borne);
        sheets = new Sheet[SHEETS];
        for (int k = 0; k < SHEETS; k++) {
            sheets[k] = new Sheet();
        }
        traced = 0;
        latestFault = NO_FAULT;
    }

    // ---- 1 the hall

    public int hall(int sheet, int lane, int i, int n) {
        latestFault = NO_FAULT;
        if (!isSheet(sheet)) {
            return UNKNOWN;
        }
        if (!isLane(lane)) {
            return OUTSIDE;
        }
        Sheet text = sheets[sheet];
        latestFault = text.faultOfCells(lane, i, n);
        if (latestFault != NO_FAULT) {
            return faultAnswer();
        }
        int place = Hall.firstFault(text.cells, i, n);
        if (place != NONE) {
            return -100 - place;
        }
        current.takeText(text.cells, i, n);
        slips.size = 0;
        butters.size = 0;
        readings.size = 0;
        return current.chairs;
    }

    public int ofChair(int c, int what) {
        if (!current.hasChair(c)) {
            return UNKNOWN;
        }
        switch (what) {
            case 0:
                return current.kind[c];
            case 1:
                return current.ear[c];
            case 2:
                return current.grudge[c];
            default:
                return OUTSIDE;
        }
    }

    public int slip(int dinner, int g, int c) {
        return noteDown(slips, dinner, g, c);
    }

    public int ofSlip(int k, int what) {
        if (!slips.has(k)) {
            return UNKNOWN;
        }
        switch (what) {
            case 0:
                return slips.dinner[k];
            case 1:
                return slips.guest[k];
            case 2:
                return slips.chair[k];
            default:
                return OUTSIDE;
        }
    }

    public int unsay(int k) {
        return slips.dropLast(k);
    }

    public int butter(int dinner, int g, int c) {
        return noteDown(butters, dinner, g, c);
    }

    public int melt(int k) {
        return butters.dropLast(k);
    }

    private int noteDown(Notes notes, int dinner, int g, int c) {
        if (!current.hasGuest(g) || !current.hasChair(c)) {
            return UNKNOWN;
        }
        if (!isDinner(dinner)) {
            return OUTSIDE;
        }
        return notes.add(dinner, g, c);
    }

    // ---- 2 who sits

    public int bears(int c, int g, int dinner) {
        if (!current.hasChair(c) || !current.hasGuest(g)) {
            return UNKNOWN;
        }
        if (!isDinner(dinner)) {
            return OUTSIDE;
        }
        memory.judgeDinner(dinner);
        return memory.isBorne(c, g) ? 1 : 0;
    }

    public int whom(int c, int dinner) {
        if (!current.hasChair(c)) {
            return UNKNOWN;
        }
        if (!isDinner(dinner)) {
            return OUTSIDE;
        }
        memory.judgeDinner(dinner);
        return memory.borne[c];
    }

    public int seats(int dinner, int g) {
        int refusal = refusalOfSeating(dinner, g);
        if (refusal != 0) {
            return refusal;
        }
        memory.judgeDinner(dinner);
        int sitting = seating.seatMost();
        return g == -1 ? sitting : seating.chairOf[g];
    }

    public int few(int dinner) {
        int refusal = refusalOfDinner(dinner);
        if (refusal != 0) {
            return refusal;
        }
        memory.judgeDinner(dinner);
        return memory.smallestShortSet();
    }

    public int tipped(int dinner, int sheet, int lane, int i, int n) {
        latestFault = NO_FAULT;
        if (!isSheet(sheet)) {
            return UNKNOWN;
        }
        if (!isLane(lane) || !isDinner(dinner)) {
            return OUTSIDE;
        }
        Sheet told = sheets[sheet];
        latestFault = told.faultOfCells(lane, i, n);
        if (latestFault != NO_FAULT) {
            return faultAnswer();
        }
        if (!current.stands()) {
            return STATE;
        }
        if (n > current.guests) {
            return OUTSIDE;
        }
        if (!current.namesOnlyChairs(told.cells, i, n)) {
            return UNKNOWN;
        }
        memory.judgeDinner(dinner);
        return memory.firstTipped(told.cells, i, n);
    }

    /** 0, or what seats and least refuse alike. */
    private int refusalOfSeating(int dinner, int g) {
        if (g != -1 && !current.hasGuest(g)) {
            return UNKNOWN;
        }
        return refusalOfDinner(dinner);
    }

    /** 0, or why nothing can be said of a dinner of the whole hall. */
    private int refusalOfDinner(int dinner) {
        if (!isDinner(dinner)) {
            return OUTSIDE;
        }
        return current.stands() ? 0 : STATE;
    }

    // ---- 3 butter, dinners

    public int least(int dinner, int g) {
        int refusal = refusalOfSeating(dinner, g);
        if (refusal != 0) {
            return refusal;
        }
        memory.judgeDinner(dinner);
        int given = seating.seatAllByButter();
        if (given == NONE) {
            return NONE;
        }
        return g == -1 ? given : seating.chairOf[g];
    }

    public int when(int dinner) {
        int refusal = refusalOfDinner(dinner);
        if (refusal != 0) {
            return refusal;
        }
        for (int later = dinner; later < DINNERS; later++) {
            memory.judgeDinner(later);
            if (memory.allCanSit()) {
                return later;
            }
        }
        return NONE;
    }

    public int fresh(int c, int dinner) {
        if (!current.hasChair(c)) {
            return UNKNOWN;
        }
        if (!isDinner(dinner)) {
            return OUTSIDE;
        }
        memory.judgeDinner(dinner);
        int sitting = seating.seatMost();
        memory.judge(ALL_SLIPS, c);
        return seating.seatMost() - sitting;
    }

    // ---- 4 who was tipped

    public int reading(int dinner, int c, int g, boolean bore) {
        int number = noteDown(readings, dinner, g, c);
        if (readings.has(number)) {
            wasBorne[number] = bore;
        }
        return number;
    }

    public int back(int k) {
        return readings.dropLast(k);
    }

    public int times(int slip) {
        if (!slips.has(slip)) {
            return UNKNOWN;
        }
        return fitting(slips.dinner, slip, DINNERS);
    }

    public int grudges(int c) {
        if (!current.hasChair(c)) {
            return UNKNOWN;
        }
        return fitting(current.grudge, c, GRUDGES);
    }

    public int ears(int c) {
        if (!current.hasChair(c)) {
            return UNKNOWN;
        }
        return fitting(current.ear, c, EARS);
    }

    public int kinds(int c) {
        if (!current.hasChair(c)) {
            return UNKNOWN;
        }
        return fitting(current.kind, c, KINDS);
    }

    public long odds(int dinner, int which) {
        if (which < 0 || which > 1 || refusalOfDinner(dinner) != 0) {
            return LOST;
        }
        int lower = 1 << slips.size;
        int upper = 0;
        memory.recall(dinner);
        for (int made = 0; made < lower; made++) {
            memory.judge(made, NO_CHAIR);
            if (memory.allCanSit()) {
                upper++;
            }
        }
        // The lower number is a power of two, so halving is all that least terms need.
        for (int halved = 0; halved < slips.size && upper % 2 == 0; halved++) {
            lower /= 2;
            upper /= 2;
        }
        return which == 0 ? upper : lower;
    }

    /** The numbers below a bound that, in one place alone, leave all readings so; the place stays as it was. */
    private int fitting(int[] row, int place, int bound) {
        int was = row[place];
        int set = 0;
        for (int v = 0; v < bound; v++) {
            row[place] = v;
            if (allReadingsAreSo()) {
                set |= 1 << v;
            }
        }
        row[place] = was;
        return set;
    }

    private boolean allReadingsAreSo() {
        for (int k = 0; k < readings.size; k++) {
            memory.judgeDinner(readings.dinner[k]);
            if (memory.isBorne(readings.chair[k], readings.guest[k]) != wasBorne[k]) {
                return false;
            }
        }
        return true;
    }

    // ---- 5 sheets, parts

    public int sheet(int k, int lane, int n) {
        latestFault = NO_FAULT;
        if (!isSheet(k)) {
            return UNKNOWN;
        }
        if (!isLane(lane) || n > MOST_CELLS) {
            return OUTSIDE;
        }
        if (n < 0) {
            latestFault = SIZE;
            return faultAnswer();
        }
        sheets[k].begin(lane, n);
        return 1;
    }

    public int lose(int k) {
        if (!isSheet(k)) {
            return UNKNOWN;
        }
        return sheets[k].drop() ? 1 : 0;
    }

    public int put(int k, int i, int v) {
        latestFault = NO_FAULT;
        if (!isSheet(k)) {
            return UNKNOWN;
        }
        latestFault = sheets[k].faultOfPlace(i);
        if (latestFault != NO_FAULT) {
            return faultAnswer();
        }
        sheets[k].write(i, v);
        return 1;
    }

    public long cell(int k, int i, int lane) {
        latestFault = NO_FAULT;
        if (!isSheet(k) || !isLane(lane)) {
            return LOST;
        }
        latestFault = sheets[k].faultOfLane(lane);
        if (latestFault == NO_FAULT) {
            latestFault = sheets[k].faultOfPlace(i);
        }
        return latestFault == NO_FAULT ? sheets[k].cells[i] : LOST;
    }

    public int copy(int k, int i, int other, int j, int n) {
        latestFault = NO_FAULT;
        if (!isSheet(k) || !isSheet(other)) {
            return UNKNOWN;
        }
        latestFault = faultOfCopy(sheets[k], i, sheets[other], j, n);
        if (latestFault != NO_FAULT) {
            return faultAnswer();
        }
        System.arraycopy(sheets[k].cells, i, sheets[other].cells, j, n);
        return n;
    }

    private static int faultOfCopy(Sheet from, int i, Sheet to, int j, int n) {
        if (from.isEmpty() || to.isEmpty()) {
            return NULL;
        }
        if (from.lane != to.lane) {
            return CAST;
        }
        return from.reaches(i, n) && to.reaches(j, n) ? NO_FAULT : INDEX;
    }

    public int tell(int c) {
        if (!current.hasChair(c)) {
            return UNKNOWN;
        }
        switch (current.kind[c]) {
            case BENCH:
                return tellAsBench(c);
            case THRONE:
                return tellAsThrone(c);
            default:
                return tellAsChair(c);
        }
    }

    private int tellAsChair(int c) {
        leaveTrace(1);
        return current.grudge[c];
    }

    private int tellAsBench(int c) {
        leaveTrace(2);
        return tellAsChair(c) + 100;
    }

    private int tellAsThrone(int c) {
        leaveTrace(3);
        int byBench = tellAsBench(c);
        return byBench + tellAsChair(c);
    }

    public int creak(int c) {
        if (!current.hasChair(c)) {
            return UNKNOWN;
        }
        if (current.kind[c] == THRONE) {
            leaveTrace(5);
            return 60;
        }
        leaveTrace(4);
        return c;
    }

    private void leaveTrace(int body) {
        traced = 31 * traced + body;
    }

    public int as(int c, int kind) {
        latestFault = NO_FAULT;
        if (!current.hasChair(c)) {
            return UNKNOWN;
        }
        if (kind < 0 || kind >= KINDS) {
            return OUTSIDE;
        }
        if (kind > current.kind[c]) {
            latestFault = CAST;
            return faultAnswer();
        }
        return 1;
    }

    public int trace() {
        return traced;
    }

    public int fault() {
        return latestFault;
    }

    public int many(int what) {
        switch (what) {
            case 0:
                return current.chairs;
            case 1:
                return current.guests;
            case 2:
                return slips.size;
            case 3:
                return butters.size;
            case 4:
                return readings.size;
            default:
                return OUTSIDE;
        }
    }

    private int faultAnswer() {
        return -10 - latestFault;
    }

    private static boolean isSheet(int k) {
        return k >= 0 && k < SHEETS;
    }

    private static boolean isLane(int lane) {
        return lane >= 0 && lane < LANES;
    }

    private static boolean isDinner(int dinner) {
        return dinner >= 0 && dinner < DINNERS;
    }

    /** The chairs in their row, and how many guests there are; no chairs: there is no hall. */
    private static final class Hall {
        private static final int HEAD = 2, CODES_OF_CHAIR = 4;

        final int[] kind;
        final int[] ear;
        final int[] grudge;
        int chairs;
        int guests;

        Hall() {
            kind = new int[MOST_CHAIRS];
            ear = new int[MOST_CHAIRS];
            grudge = new int[MOST_CHAIRS];
            chairs = 0;
            guests = 0;
        }

        boolean stands() {
            return chairs > 0;
        }

        boolean hasChair(int c) {
            return c >= 0 && c < chairs;
        }

        boolean hasGuest(int g) {
            return g >= 0 && g < guests;
        }

        boolean namesOnlyChairs(int[] cells, int from, int n) {
            for (int g = 0; g < n; g++) {
                int c = cells[from + g];
                if (c != NONE && !hasChair(c)) {
                    return false;
                }
            }
            return true;
        }

        /** Where n codes stop being the beginning of a text; n: they end too soon; NONE: they are a text. */
        static int firstFault(int[] codes, int from, int n) {
            for (int place = 0; place < n; place++) {
                if (!goesOn(place, codes[from + place])) {
                    return place;
                }
            }
            boolean isWhole = n > HEAD && (n - HEAD) % CODES_OF_CHAIR == 0;
            return isWhole ? NONE : n;
        }

        private static boolean goesOn(int place, int code) {
            if (place == 0) {
                return code == 'z';
            }
            if (place == 1) {
                return code >= '1' && code <= '5';
            }
            switch ((place - HEAD) % CODES_OF_CHAIR) {
                case 0:
                    return code == ',' && place < HEAD + MOST_CHAIRS * CODES_OF_CHAIR;
                case 1:
                    return code == 'c' || code == 'b' || code == 't';
                case 2:
                    return code >= '0' && code <= '4';
                default:
                    return code >= '0' && code <= '9';
            }
        }

        /** Only for codes in which firstFault finds none. */
        void takeText(int[] codes, int from, int n) {
            guests = codes[from + 1] - '0';
            chairs = Math.min((n - HEAD) / CODES_OF_CHAIR, MOST_CHAIRS);
            for (int c = 0; c < chairs; c++) {
                int comma = from + HEAD + c * CODES_OF_CHAIR;
                kind[c] = kindOf(codes[comma + 1]);
                ear[c] = codes[comma + 2] - '0';
                grudge[c] = codes[comma + 3] - '0';
            }
        }

        private static int kindOf(int letter) {
            if (letter == 't') {
                return THRONE;
            }
            return letter == 'b' ? BENCH : 0;
        }
    }

    /** What was noted of dinners, guests and chairs: slips, butters, readings. */
    private static final class Notes {
        final int[] dinner;
        final int[] guest;
        final int[] chair;
        int size;

        Notes() {
            dinner = new int[MOST_NOTES];
            guest = new int[MOST_NOTES];
            chair = new int[MOST_NOTES];
            size = 0;
        }

        boolean has(int k) {
            return k >= 0 && k < size;
        }

        int add(int inDinner, int ofGuest, int onChair) {
            if (size >= MOST_NOTES) {
                return FULL;
            }
            dinner[size] = inDinner;
            guest[size] = ofGuest;
            chair[size] = onChair;
            size++;
            return size - 1;
        }

        int dropLast(int k) {
            if (k < 0 || k > size) {
                return OUTSIDE;
            }
            size -= k;
            return size;
        }
    }

    /** Whom the chairs bear in one dinner. */
    private static final class Memory {
        private final Hall hall;
        private final Notes slips;
        private final Notes butters;
        /** By chair: the slips that it minds, if they were made. */
        private final int[] held;
        /** By chair: the guests whom it minds. */
        private final int[] minded;
        /** By chair: the guests whom it bears. */
        final int[] borne;

        Memory(Hall hall, Notes slips, Notes butters) {
            this.hall = hall;
            this.slips = slips;
            this.butters = butters;
            held = new int[MOST_CHAIRS];
            minded = new int[MOST_CHAIRS];
            borne = new int[MOST_CHAIRS];
        }

        void judgeDinner(int dinner) {
            recall(dinner);
            judge(ALL_SLIPS, NO_CHAIR);
        }

        void recall(int dinner) {
            for (int c = 0; c < hall.chairs; c++) {
                held[c] = 0;
                for (int k = 0; k < slips.size; k++) {
                    if (isHeld(c, k, dinner)) {
                        held[c] |= 1 << k;
                    }
                }
            }
        }

        private boolean isHeld(int c, int k, int dinner) {
            int ago = dinner - slips.dinner[k];
            int longest = hall.kind[c] == THRONE ? 2 * hall.grudge[c] : hall.grudge[c];
            return ago >= 1 && ago <= longest
                && Math.abs(c - slips.chair[k]) <= hall.ear[c]
                && !isForgiven(c, k, dinner);
        }

        private boolean isForgiven(int c, int k, int dinner) {
            for (int b = 0; b < butters.size; b++) {
                if (butters.chair[b] == c && butters.guest[b] == slips.guest[k]
                    && butters.dinner[b] >= slips.dinner[k] && butters.dinner[b] < dinner) {
                    return true;
                }
            }
            return false;
        }

        /** Of the dinner that was recalled: as if only some slips were made, and one chair remembered nothing. */
        void judge(int made, int forgetful) {
            int mindedByBenches = 0;
            for (int c = 0; c < hall.chairs; c++) {
                minded[c] = c == forgetful ? 0 : guestsOf(held[c] & made);
                if (hall.kind[c] == BENCH) {
                    mindedByBenches |= minded[c];
                }
            }
            int all = (1 << hall.guests) - 1;
            for (int c = 0; c < hall.chairs; c++) {
                boolean asBenches = hall.kind[c] == BENCH && c != forgetful;
                borne[c] = all & ~(asBenches ? mindedByBenches : minded[c]);
            }
        }

        private int guestsOf(int slipSet) {
            int guests = 0;
            for (int k = 0; k < slips.size; k++) {
                if ((slipSet >> k & 1) != 0) {
                    guests |= 1 << slips.guest[k];
                }
            }
            return guests;
        }

        boolean isBorne(int c, int g) {
            return (borne[c] >> g & 1) != 0;
        }

        /** By Hall's theorem all can sit just if no set of guests has too few chairs. */
        boolean allCanSit() {
            for (int set = 1; set < 1 << hall.guests; set++) {
                if (isShort(set)) {
                    return false;
                }
            }
            return true;
        }

        int smallestShortSet() {
            int found = NONE;
            int size = MOST_GUESTS + 1;
            for (int set = 1; set < 1 << hall.guests; set++) {
                if (Integer.bitCount(set) < size && isShort(set)) {
                    found = set;
                    size = Integer.bitCount(set);
                }
            }
            return found;
        }

        private boolean isShort(int guestSet) {
            int bearing = 0;
            for (int c = 0; c < hall.chairs; c++) {
                if ((borne[c] & guestSet) != 0) {
                    bearing++;
                }
            }
            return bearing < Integer.bitCount(guestSet);
        }

        /** Only for cells that name chairs, or NONE. */
        int firstTipped(int[] cells, int from, int n) {
            int taken = 0;
            for (int g = 0; g < n; g++) {
                int c = cells[from + g];
                if (c == NONE) {
                    continue;
                }
                if (!isBorne(c, g) || (taken >> c & 1) != 0) {
                    return g;
                }
                taken |= 1 << c;
            }
            return NONE;
        }
    }

    /**
     * The cheapest way to sit, of several the first as a row of chairs by guests. What the guests from one on
     * cost is held by that guest and the set of chairs that those ahead have taken.
     */
    private static final class Seating {
        private final Hall hall;
        private final int[] borne;
        private final int[] costs;
        final int[] chairOf;
        private int priceOfUnborne;
        private int priceOfStanding;

        Seating(Hall hall, int[] borne) {
            this.hall = hall;
            this.borne = borne;
            costs = new int[(MOST_GUESTS + 1) << MOST_CHAIRS];
            chairOf = new int[MOST_GUESTS];
            priceOfUnborne = 0;
            priceOfStanding = 0;
        }

        /** How many sit. */
        int seatMost() {
            priceOfUnborne = DEAR;
            priceOfStanding = 1;
            return hall.guests - seatCheapest();
        }

        /** How many butters are given; NONE: not all can sit by any. */
        int seatAllByButter() {
            priceOfUnborne = 1;
            priceOfStanding = DEAR;
            int given = seatCheapest();
            return given < DEAR ? given : NONE;
        }

        private int seatCheapest() {
            int sets = 1 << hall.chairs;
            for (int taken = 0; taken < sets; taken++) {
                costs[at(hall.guests, taken)] = 0;
            }
            for (int g = hall.guests - 1; g >= 0; g--) {
                for (int taken = 0; taken < sets; taken++) {
                    costs[at(g, taken)] = costOf(g, taken, bestChair(g, taken));
                }
            }
            int taken = 0;
            for (int g = 0; g < hall.guests; g++) {
                chairOf[g] = bestChair(g, taken);
                if (chairOf[g] != NONE) {
                    taken |= 1 << chairOf[g];
                }
            }
            return costs[at(0, 0)];
        }

        /** The first of the cheapest free chairs of a guest; NONE: it is cheaper to stand. */
        private int bestChair(int g, int taken) {
            int best = NONE;
            int lowest = costOf(g, taken, NONE);
            for (int c = hall.chairs - 1; c >= 0; c--) {
                if ((taken >> c & 1) == 0 && costOf(g, taken, c) <= lowest) {
                    best = c;
                    lowest = costOf(g, taken, c);
                }
            }
            return best;
        }

        private int costOf(int g, int taken, int c) {
            if (c == NONE) {
                return priceOfStanding + costs[at(g + 1, taken)];
            }
            int price = (borne[c] >> g & 1) != 0 ? 0 : priceOfUnborne;
            return price + costs[at(g + 1, taken | 1 << c)];
        }

        private static int at(int g, int taken) {
            return (g << MOST_CHAIRS) + taken;
        }
    }

    /** A row of numbers of a lane, or nothing. */
    private static final class Sheet {
        private static final int NOTHING = -1;

        final int[] cells;
        int lane;
        private int length;

        Sheet() {
            cells = new int[MOST_CELLS];
            lane = 0;
            length = NOTHING;
        }

        boolean isEmpty() {
            return length == NOTHING;
        }

        void begin(int ofLane, int n) {
            lane = ofLane;
            length = n;
            for (int i = 0; i < MOST_CELLS; i++) {
                cells[i] = 0;
            }
        }

        /** Whether there was a row to lose. */
        boolean drop() {
            boolean had = !isEmpty();
            length = NOTHING;
            return had;
        }

        boolean reaches(int i, int n) {
            return i >= 0 && i <= length && n >= 0 && n <= length - i;
        }

        int faultOfLane(int asLane) {
            if (isEmpty()) {
                return NULL;
            }
            return lane == asLane ? NO_FAULT : CAST;
        }

        int faultOfPlace(int i) {
            if (isEmpty()) {
                return NULL;
            }
            return i >= 0 && i < length ? NO_FAULT : INDEX;
        }

        int faultOfCells(int asLane, int i, int n) {
            int fault = faultOfLane(asLane);
            if (fault != NO_FAULT) {
                return fault;
            }
            if (n < 0) {
                return SIZE;
            }
            return reaches(i, n) ? NO_FAULT : INDEX;
        }

        void write(int i, int v) {
            cells[i] = cut(v);
        }

        private int cut(int v) {
            if (lane == 0) {
                return (byte) v;
            }
            return lane == 1 ? (short) v : v;
        }
    }
}
