/**
 * The wheels of a train: measured, worn, turned, paired, read from the wayside and looked at.
 * What each method promises stands in ../shared/DOC.md under its name.
 */
public final class WheelShop {
    public static final int BAD = -1, STATE = -2, FULL = -3, NONE = -9;
    public static final int NO = -1000000;

    private static final int WHEELS = 16;
    private static final int LEAST_SIZE = 6000;
    private static final int MOST_SIZE = 9200;
    private static final int MOST_WEAR = 20;
    private static final int MOST_THINNING = 30;
    private static final int MOST_MILES = 500;
    private static final int MOST_BLOW = 999;
    private static final int LEAST_READ = 5000;
    private static final int MOST_READ = 10000;

    /** Each kind of cut asks the one over it once, so its own number and all those over it come. */
    private static final int[] TRACE_OF_KIND = {1, 11, 111};

    private final Wheel[] wheels = new Wheel[WHEELS];
    private final Laws laws = new Laws();
    private final Spares spares = new Spares();
    private final Readings readings = new Readings();
    /** A row used again by every call that looks at all sizes at once. */
    private final int[] sizes = new int[WHEELS];
    private int thinning = 6;
    private int bar = 500;
    private int turnings;
    private long trace;

    public WheelShop() {
        for (int k = 0; k < WHEELS; k++) {
            wheels[k] = new Wheel();
        }
    }

    // ---- wheels

    public int size(int wheel, int v) {
        if (!isWheel(wheel) || !within(v, LEAST_SIZE, MOST_SIZE)) {
            return BAD;
        }
        int was = wheels[wheel].size;
        wheels[wheel].size = v;
        return was;
    }

    public int depth(int wheel, int i, int v) {
        if (!isWheel(wheel) || !within(i, 0, Wheel.DEPTHS - 1) || !within(v, 0, Wheel.MOST_DEPTH)) {
            return BAD;
        }
        int was = wheels[wheel].depths[i];
        wheels[wheel].depths[i] = v;
        return was;
    }

    public int wear(int wheel, int v) {
        if (!isWheel(wheel) || !within(v, 0, MOST_WEAR)) {
            return BAD;
        }
        int was = wheels[wheel].wear;
        wheels[wheel].wear = v;
        return was;
    }

    public int about(int wheel, int what) {
        if (!isWheel(wheel)) {
            return BAD;
        }
        Wheel asked = wheels[wheel];
        switch (what) {
            case 0:
                return asked.size;
            case 1:
            case 2:
            case 3:
            case 4:
            case 5:
                return asked.depths[what - 1];
            case 6:
                return asked.wear;
            case 7:
                return asked.road;
            default:
                return BAD;
        }
    }

    public int thinning(int v) {
        if (!within(v, 0, MOST_THINNING)) {
            return BAD;
        }
        int was = thinning;
        thinning = v;
        return was;
    }

    public int cut(int kind, int wheel) {
        if (!isKind(kind) || !isWheel(wheel)) {
            return BAD;
        }
        trace += TRACE_OF_KIND[kind];
        return wheels[wheel].neededCut(kind, thinning);
    }

    public int turn(int wheel, int kind) {
        if (!isWheel(wheel) || !isKind(kind)) {
            return BAD;
        }
        int needed = wheels[wheel].neededCut(kind, thinning);
        if (wheels[wheel].size - 2 * needed < LEAST_SIZE) {
            return STATE;
        }
        wheels[wheel].takeOff(needed);
        turnings++;
        return wheels[wheel].size;
    }

    public int miles(int n) {
        if (!within(n, 1, MOST_MILES)) {
            return BAD;
        }
        int overdue = 0;
        for (int k = 0; k < WHEELS; k++) {
            wheels[k].run(n);
            if (wheels[k].milesLeft() <= 0) {
                overdue++;
            }
        }
        return overdue;
    }

    // ---- laws, spares

    public int law(int what, int v) {
        if (!within(what, 0, Laws.LAWS - 1) || !within(v, 0, Laws.MOST_APART)) {
            return BAD;
        }
        int was = laws.apart[what];
        laws.apart[what] = v;
        return was;
    }

    public int broken() {
        fillSizes();
        return laws.brokenPairs(sizes);
    }

    public int kept(int wheel) {
        if (!isWheel(wheel)) {
            return BAD;
        }
        fillKeptSizes();
        return sizes[wheel];
    }

    public int steel() {
        fillKeptSizes();
        int lost = 0;
        for (int k = 0; k < WHEELS; k++) {
            lost += wheels[k].size - sizes[k];
        }
        return lost;
    }

    public int even() {
        fillKeptSizes();
        int losers = 0;
        for (int k = 0; k < WHEELS; k++) {
            if (sizes[k] < wheels[k].size) {
                losers++;
            }
            wheels[k].size = sizes[k];
        }
        return losers;
    }

    public int spare(int size) {
        if (!within(size, LEAST_SIZE, MOST_SIZE)) {
            return BAD;
        }
        if (spares.held == Spares.MOST_SPARES) {
            return FULL;
        }
        return spares.store(size);
    }

    public int sell() {
        if (spares.held == 0) {
            return STATE;
        }
        spares.held--;
        return spares.held;
    }

    public int pairs(int what) {
        if (!within(what, 0, 1)) {
            return BAD;
        }
        spares.pairUp(laws.apart[Laws.AXLE]);
        return what == 0 ? spares.bestPairs() : spares.leastSum();
    }

    // ---- readings, passes, looks

    public int read(int wheel, int by, int size) {
        if (!isWheel(wheel) || !within(by, Readings.HAND, Readings.READER)
                || !within(size, LEAST_READ, MOST_READ)) {
            return BAD;
        }
        if (readings.told == Readings.MOST_READINGS) {
            return FULL;
        }
        readings.tell(wheel, by, size);
        return readings.told;
    }

    public int forget() {
        if (readings.told == 0) {
            return STATE;
        }
        readings.told--;
        return readings.told;
    }

    public int offset(int what) {
        if (!within(what, 0, 3)) {
            return NO + 1;
        }
        readings.fillBounds();
        if (what == 3) {
            return readings.fewestLeftOut();
        }
        int agreeing = readings.agreeingOffsets();
        if (what == 2) {
            return agreeing;
        }
        if (agreeing == 0) {
            return NO;
        }
        return what == 0 ? readings.leastOffset() : readings.greatestOffset();
    }

    public int pass(int wheel, int blow) {
        if (!isWheel(wheel) || !within(blow, 0, MOST_BLOW)) {
            return BAD;
        }
        wheels[wheel].feel(blow);
        return flatness(wheels[wheel]);
    }

    public int bar(int v) {
        if (!within(v, 0, MOST_BLOW)) {
            return BAD;
        }
        int was = bar;
        bar = v;
        return was;
    }

    public int flat(int wheel) {
        if (!isWheel(wheel)) {
            return BAD;
        }
        return flatness(wheels[wheel]);
    }

    public int look(int wheel) {
        if (!isWheel(wheel)) {
            return NO;
        }
        int was = wheels[wheel].milesLeft();
        wheels[wheel].road = 0;
        return was;
    }

    public int due(int wheel) {
        if (!isWheel(wheel)) {
            return NO;
        }
        return wheels[wheel].milesLeft();
    }

    public int count(int what) {
        switch (what) {
            case 0:
                return spares.held;
            case 1:
                return readings.told;
            case 2:
                return flatWheels();
            case 3:
                return thinning;
            case 4:
                return bar;
            case 5:
                return turnings;
            default:
                return BAD;
        }
    }

    public long trace() {
        return trace;
    }

    // ---- what the calls above share

    private static boolean within(int v, int least, int most) {
        return v >= least && v <= most;
    }

    private static boolean isWheel(int wheel) {
        return within(wheel, 0, WHEELS - 1);
    }

    private static boolean isKind(int kind) {
        return within(kind, Wheel.CUT_FULL, Wheel.CUT_EVEN);
    }

    private void fillSizes() {
        for (int k = 0; k < WHEELS; k++) {
            sizes[k] = wheels[k].size;
        }
    }

    private void fillKeptSizes() {
        fillSizes();
        laws.lower(sizes);
    }

    private int flatness(Wheel wheel) {
        return wheel.isFlat(bar) ? 1 : 0;
    }

    private int flatWheels() {
        int flats = 0;
        for (int k = 0; k < WHEELS; k++) {
            flats += flatness(wheels[k]);
        }
        return flats;
    }

    private static final class Wheel {
        static final int DEPTHS = 5;
        static final int MOST_DEPTH = 99;
        static final int CUT_FULL = 0;
        static final int CUT_THIN = 1;
        static final int CUT_EVEN = 2;
        private static final int KEPT_BLOWS = 5;
        private static final int BLOWS_OF_A_FLAT = 3;
        private static final int MILES_TO_A_LOOK = 1000;

        final int[] depths = new int[DEPTHS];
        int size = 9000;
        int wear;
        /** Since the latest turning or look: nothing asks for the miles before it. */
        int road;
        private final int[] blows = new int[KEPT_BLOWS];
        private int blowsKept;
        private int oldestBlow;

        int neededCut(int kind, int thinning) {
            switch (kind) {
                case CUT_FULL:
                    return fullCut();
                case CUT_THIN:
                    return thinCut(thinning);
                default:
                    return evenCut(thinning);
            }
        }

        private int fullCut() {
            return greatestDepth() - leastDepth();
        }

        private int thinCut(int thinning) {
            int up = fullCut();
            return depths[0] == greatestDepth() ? Math.max(0, up - thinning) : up;
        }

        private int evenCut(int thinning) {
            int up = thinCut(thinning);
            return up + up % 2;
        }

        private int greatestDepth() {
            int greatest = depths[0];
            for (int i = 1; i < DEPTHS; i++) {
                greatest = Math.max(greatest, depths[i]);
            }
            return greatest;
        }

        private int leastDepth() {
            int least = depths[0];
            for (int i = 1; i < DEPTHS; i++) {
                least = Math.min(least, depths[i]);
            }
            return least;
        }

        /** A turning by this cut. */
        void takeOff(int needed) {
            int gone = leastDepth() + needed;
            for (int i = 0; i < DEPTHS; i++) {
                depths[i] = Math.max(0, depths[i] - gone);
            }
            size -= 2 * needed;
            road = 0;
        }

        void run(int n) {
            int worn = wear * n / 100;
            for (int i = 0; i < DEPTHS; i++) {
                boolean outermost = i == 0 || i == DEPTHS - 1;
                depths[i] = Math.min(MOST_DEPTH, depths[i] + (outermost ? worn / 2 : worn));
            }
            size = Math.max(LEAST_SIZE, size - worn);
            road += n;
        }

        int milesLeft() {
            return MILES_TO_A_LOOK - road;
        }

        /** Keeps the blow of a pass in the place of the oldest one. */
        void feel(int blow) {
            blows[oldestBlow] = blow;
            oldestBlow = oldestBlow == KEPT_BLOWS - 1 ? 0 : oldestBlow + 1;
            blowsKept = Math.min(KEPT_BLOWS, blowsKept + 1);
        }

        boolean isFlat(int bar) {
            int hard = 0;
            for (int i = 0; i < blowsKept; i++) {
                if (blows[i] >= bar) {
                    hard++;
                }
            }
            return hard >= BLOWS_OF_A_FLAT;
        }
    }

    private static final class Laws {
        static final int LAWS = 4;
        static final int MOST_APART = 4000;
        static final int AXLE = 0;
        private static final int BOGIE = 1;
        private static final int CAR = 2;
        private static final int TRAIN = 3;

        final int[] apart = {10, 40, 80, 4000};

        /** How far apart two wheels may be by the first law that they are under. */
        private int between(int a, int b) {
            if (a / 2 == b / 2) {
                return apart[AXLE];
            }
            if (a / 4 == b / 4) {
                return apart[BOGIE];
            }
            return a / 8 == b / 8 ? apart[CAR] : apart[TRAIN];
        }

        int brokenPairs(int[] sizes) {
            int pairs = 0;
            for (int a = 0; a < sizes.length; a++) {
                for (int b = a + 1; b < sizes.length; b++) {
                    if (Math.abs(sizes[a] - sizes[b]) > between(a, b)) {
                        pairs++;
                    }
                }
            }
            return pairs;
        }

        /** Lowers sizes to the greatest by which no pair is broken. */
        void lower(int[] sizes) {
            boolean lowered = true;
            // What holds a wheel down may come from another by way of all the rest (a law of many
            // may be narrower than one of few), and a round carries it one wheel on at least.
            for (int round = 0; lowered && round < sizes.length; round++) {
                lowered = lowerOnce(sizes);
            }
        }

        private boolean lowerOnce(int[] sizes) {
            boolean lowered = false;
            for (int a = 0; a < sizes.length; a++) {
                for (int b = 0; b < sizes.length; b++) {
                    int most = sizes[b] + between(a, b);
                    if (sizes[a] > most) {
                        sizes[a] = most;
                        lowered = true;
                    }
                }
            }
            return lowered;
        }
    }

    private static final class Spares {
        static final int MOST_SPARES = 8;

        int held;
        private final int[] sizes = new int[MOST_SPARES];
        private final int[] sorted = new int[MOST_SPARES];
        /** Of the smallest spares, as many as the index says: how many pairs, and their sum. */
        private final int[] pairsOf = new int[MOST_SPARES + 1];
        private final int[] sumOf = new int[MOST_SPARES + 1];

        /** Asked only while there is room. */
        int store(int size) {
            sizes[held] = size;
            held++;
            return held - 1;
        }

        int bestPairs() {
            return pairsOf[held];
        }

        int leastSum() {
            return sumOf[held];
        }

        /**
         * Looks at neighbours by size alone: where two pairs cross or one holds another (or a spare
         * without a partner), pairing neighbours in their stead is as many and never wider.
         */
        void pairUp(int law) {
            sort();
            for (int n = 1; n <= held; n++) {
                pairsOf[n] = pairsOf[n - 1];
                sumOf[n] = sumOf[n - 1];
                if (n >= 2 && sorted[n - 1] - sorted[n - 2] <= law) {
                    pairLastTwo(n, sorted[n - 1] - sorted[n - 2]);
                }
            }
        }

        private void pairLastTwo(int n, int difference) {
            int pairs = pairsOf[n - 2] + 1;
            int sum = sumOf[n - 2] + difference;
            if (pairs > pairsOf[n] || pairs == pairsOf[n] && sum < sumOf[n]) {
                pairsOf[n] = pairs;
                sumOf[n] = sum;
            }
        }

        private void sort() {
            for (int i = 0; i < held; i++) {
                int place = i;
                while (place > 0 && sorted[place - 1] > sizes[i]) {
                    sorted[place] = sorted[place - 1];
                    place--;
                }
                sorted[place] = sizes[i];
            }
        }
    }

    private static final class Readings {
        static final int MOST_READINGS = 20;
        static final int HAND = 0;
        static final int READER = 1;
        private static final int HAND_WRONG = 2;
        private static final int READER_WRONG = 5;
        private static final int LEAST_OFFSET = -200;
        private static final int GREATEST_OFFSET = 200;
        /** Beyond every size and offset: the bound of a wheel that has no such reading. */
        private static final int FAR = 100000;

        int told;
        private final int[] wheelOf = new int[MOST_READINGS];
        private final int[] byOf = new int[MOST_READINGS];
        private final int[] sizeOf = new int[MOST_READINGS];
        /** Wheel by wheel, the sizes that agree with its hands, and those with its reader at offset 0. */
        private final int[] handLow = new int[WHEELS];
        private final int[] handHigh = new int[WHEELS];
        private final int[] readerLow = new int[WHEELS];
        private final int[] readerHigh = new int[WHEELS];
        private final int[] mostAgreeing = new int[WHEELS];

        /** Asked only while there is room. */
        void tell(int wheel, int by, int size) {
            wheelOf[told] = wheel;
            byOf[told] = by;
            sizeOf[told] = size;
            told++;
        }

        /** Every answer about offsets needs this first. */
        void fillBounds() {
            for (int w = 0; w < WHEELS; w++) {
                handLow[w] = -FAR;
                handHigh[w] = FAR;
                readerLow[w] = -FAR;
                readerHigh[w] = FAR;
            }
            for (int i = 0; i < told; i++) {
                if (byOf[i] == HAND) {
                    narrow(handLow, handHigh, i, HAND_WRONG);
                } else {
                    narrow(readerLow, readerHigh, i, READER_WRONG);
                }
            }
        }

        private void narrow(int[] low, int[] high, int i, int wrong) {
            int w = wheelOf[i];
            low[w] = Math.max(low[w], sizeOf[i] - wrong);
            high[w] = Math.min(high[w], sizeOf[i] + wrong);
        }

        private boolean contradict(int[] low, int[] high) {
            for (int w = 0; w < WHEELS; w++) {
                if (low[w] > high[w]) {
                    return true;
                }
            }
            return false;
        }

        int leastOffset() {
            int least = LEAST_OFFSET;
            for (int w = 0; w < WHEELS; w++) {
                least = Math.max(least, readerLow[w] - handHigh[w]);
            }
            return least;
        }

        int greatestOffset() {
            int greatest = GREATEST_OFFSET;
            for (int w = 0; w < WHEELS; w++) {
                greatest = Math.min(greatest, readerHigh[w] - handLow[w]);
            }
            return greatest;
        }

        int agreeingOffsets() {
            if (contradict(handLow, handHigh) || contradict(readerLow, readerHigh)) {
                return 0;
            }
            return Math.max(0, greatestOffset() - leastOffset() + 1);
        }

        /**
         * Tries the least offset, and each at which the highest size of a wheel comes to agree with
         * a reading: as offsets rise, more readings can agree with them only there.
         */
        int fewestLeftOut() {
            if (contradict(handLow, handHigh)) {
                return NONE;
            }
            int fewest = leftOutAt(LEAST_OFFSET);
            for (int i = 0; i < told; i++) {
                int offset = sizeOf[i] - READER_WRONG - handHigh[wheelOf[i]];
                if (byOf[i] == READER && offset >= LEAST_OFFSET && offset <= GREATEST_OFFSET) {
                    fewest = Math.min(fewest, leftOutAt(offset));
                }
            }
            return fewest;
        }

        private int leftOutAt(int offset) {
            for (int w = 0; w < WHEELS; w++) {
                mostAgreeing[w] = 0;
            }
            int leftOut = 0;
            for (int i = 0; i < told; i++) {
                if (byOf[i] == READER) {
                    int w = wheelOf[i];
                    mostAgreeing[w] = Math.max(mostAgreeing[w], agreeingFrom(i, offset));
                    leftOut++;
                }
            }
            for (int w = 0; w < WHEELS; w++) {
                leftOut -= mostAgreeing[w];
            }
            return leftOut;
        }

        /**
         * How many readings agree with the lowest size that agrees with reading i, or the nearest
         * to it that hands allow. One of these sizes is a best one of the wheel: as sizes rise,
         * more readings agree only where a reading's lowest one is reached.
         */
        private int agreeingFrom(int i, int offset) {
            int w = wheelOf[i];
            int lowest = sizeOf[i] - READER_WRONG;
            int shown = Math.max(handLow[w] + offset, Math.min(handHigh[w] + offset, lowest));
            int agreeing = 0;
            for (int j = 0; j < told; j++) {
                if (byOf[j] == READER && wheelOf[j] == w && Math.abs(sizeOf[j] - shown) <= READER_WRONG) {
                    agreeing++;
                }
            }
            return agreeing;
        }
    }
}
