import java.util.Arrays;

/**
 * A low land: ditches, weirs, pumps and sluices stepped by hours, plans of pumps under foretold rain, and sheets
 * of rain and tides. See README.md; the document's promises are told in ../shared/DOC.md.
 */
public final class LowLand {
    public static final int BAD = -1, STATE = -2, FULL = -3, NONE = -4;

    /** The BAD of the calls whose answers may well be -1. */
    private static final int FAR_BAD = -1000000;

    private static final int DAY = 24;
    private static final int MOST_DITCHES = 6, MOST_WEIRS = 8, MOST_PUMPS = 4, MOST_SLUICES = 4;
    private static final int MOST_AREA = 50, MOST_WATER = 100000, MOST_WIDTH = 50;
    private static final int MOST_RATE = 1000, MOST_LEAST = 6, ALL_PAUSES = (1 << DAY) - 1;
    private static final int HEIGHT = 500, BAND = 1000;
    private static final int MOST_PRICE = 100, MOST_RAIN = 100;
    private static final int MOST_WORLDS = 3, AHEAD = 6, PLANNED_PUMPS = 2;
    private static final int MOST_SHEETS = 4, MOST_LANES = 3, MOST_CELLS = 60, MOST_RAINED = 24;
    private static final int NO_FAULT = 0, NULL = 1, INDEX = 2, CAST = 3, SIZE = 4;
    private static final int FAULTS = -10, CELLS = -20;
    private static final int OF_WEIRS = 0, OF_PUMPS = 1, OF_SLUICES = 2;

    private final Land land;
    private final Worlds worlds;
    private final Planner planner;
    private final Sheets sheets;

    public LowLand() {
        land = new Land();
        worlds = new Worlds();
        planner = new Planner(land, worlds);
        sheets = new Sheets();
    }

    public int ditch(int area, int bed, int water) {
        if (!within(area, 1, MOST_AREA) || !isHeight(bed) || !within(water, 0, MOST_WATER)) {
            return BAD;
        }
        return land.ditches.add(area, bed, water);
    }

    public int band(int d, int low, int high) {
        if (!land.ditches.has(d) || !within(low, -BAND, BAND) || !within(high, low, BAND)) {
            return BAD;
        }
        land.ditches.low[d] = low;
        land.ditches.high[d] = high;
        return 1;
    }

    public int told(int d, int what) {
        Ditches ditches = land.ditches;
        if (!ditches.has(d)) {
            return FAR_BAD;
        }
        switch (what) {
            case 0: return ditches.water[d];
            case 1: return ditches.level(d, ditches.water);
            case 2: return ditches.breach(d, ditches.water);
            case 3: return ditches.rained[d];
            case 4: return ditches.drained[d];
            default: return FAR_BAD;
        }
    }

    public int weir(int from, int to, int crest, int width) {
        if (!land.ditches.has(from) || !land.ditches.has(to) || from == to) {
            return BAD;
        }
        if (!isHeight(crest) || !within(width, 1, MOST_WIDTH)) {
            return BAD;
        }
        return land.weirs.add(from, to, crest, width);
    }

    public int pump(int from, int to, int rate, int least, int pauses) {
        if (!land.ditches.has(from) || to != NONE && !land.ditches.has(to) || from == to) {
            return BAD;
        }
        if (!within(rate, 1, MOST_RATE) || !within(least, 1, MOST_LEAST) || !within(pauses, 0, ALL_PAUSES)) {
            return BAD;
        }
        return land.pumps.add(from, to, rate, least, pauses);
    }

    public int sluice(int from, int width) {
        if (!land.ditches.has(from) || !within(width, 1, MOST_WIDTH)) {
            return BAD;
        }
        return land.sluices.add(from, width);
    }

    public int turn(int p, boolean on) {
        Pumps pumps = land.pumps;
        if (!pumps.has(p)) {
            return BAD;
        }
        if (on ? pumps.mustStayOff(p, land.hour) : pumps.mustRunOn(p, land.hour)) {
            return STATE;
        }
        int was = pumps.isOn(p) ? 1 : 0;
        pumps.put(p, on, land.hour);
        return was;
    }

    public int open(int s, boolean is) {
        Sluices sluices = land.sluices;
        if (!sluices.has(s)) {
            return BAD;
        }
        int was = sluices.stands[s] ? 1 : 0;
        sluices.stands[s] = is;
        return was;
    }

    public int tide(int hour, int v) {
        if (!isHourOfDay(hour) || !isHeight(v)) {
            return FAR_BAD;
        }
        int was = land.tide[hour];
        land.tide[hour] = v;
        return was;
    }

    public int price(int hour, int v) {
        if (!isHourOfDay(hour) || !within(v, 0, MOST_PRICE)) {
            return BAD;
        }
        int was = land.price[hour];
        land.price[hour] = v;
        return was;
    }

    public int step(int rain) {
        if (!isRain(rain)) {
            return BAD;
        }
        return land.advance(rain);
    }

    public int passed(int sort, int k) {
        switch (sort) {
            case OF_WEIRS: return land.weirs.has(k) ? land.latest.weirs[k] : BAD;
            case OF_PUMPS: return land.pumps.has(k) ? land.latest.pumps[k] : BAD;
            case OF_SLUICES: return land.sluices.has(k) ? land.latest.sluices[k] : BAD;
            default: return BAD;
        }
    }

    // ---- worlds, plans

    public int world() {
        return worlds.add();
    }

    public int foretell(int w, int k, int rain) {
        if (!worlds.has(w) || !within(k, 0, AHEAD - 1) || !isRain(rain)) {
            return BAD;
        }
        worlds.rain[w][k] = rain;
        return 1;
    }

    public int plan(int n) {
        if (!isPlanned(n)) {
            return BAD;
        }
        planner.seek(n);
        return planner.number;
    }

    public long planned(int n, int what) {
        if (!isPlanned(n) || !within(what, 0, 1)) {
            return BAD;
        }
        planner.seek(n);
        return what == 0 ? planner.cost : planner.breach;
    }

    public long judge(int n, int number, int what) {
        if (!isPlanned(n) || !planner.isPlan(n, number)) {
            return BAD;
        }
        switch (what) {
            case 0: return planner.isWell(n, number) ? 1 : 0;
            case 1: return planner.costOf(n, number);
            case 2: return planner.breachOf(n, number);
            default: return BAD;
        }
    }

    public int follow(int n) {
        if (!isPlanned(n)) {
            return BAD;
        }
        planner.seek(n);
        int on = 0;
        for (int p = 0; p < land.pumps.inPlans(); p++) {
            boolean is = planner.tells(planner.number, 0, p);
            land.pumps.put(p, is, land.hour);
            on += is ? 1 : 0;
        }
        return on;
    }

    // ---- sheets

    public int sheet(int k, int lane, int n) {
        if (!isSheet(k) || !isLane(lane) || n > MOST_CELLS) {
            return BAD;
        }
        if (n < 0) {
            return FAULTS - SIZE;
        }
        sheets.clear(k, lane, n);
        return 1;
    }

    public int lay(int k, int i, int v) {
        if (!isSheet(k)) {
            return BAD;
        }
        if (sheets.isNothing(k)) {
            return FAULTS - NULL;
        }
        if (!sheets.hasCell(k, i)) {
            return FAULTS - INDEX;
        }
        sheets.put(k, i, v);
        return 1;
    }

    public int rain(int k, int lane, int f, int n) {
        if (!isSheet(k) || !isLane(lane) || !within(n, 0, MOST_RAINED)) {
            return BAD;
        }
        int fault = sheets.faultAs(k, lane);
        if (fault != NO_FAULT) {
            return FAULTS - fault;
        }
        int alarms = 0;
        for (int i = 0; i < n; i++) {
            if (!sheets.hasCell(k, f + i)) {
                return FAULTS - INDEX;
            }
            int fallen = sheets.cells[k][f + i];
            if (!isRain(fallen)) {
                return CELLS - i;
            }
            alarms = land.advance(fallen);
        }
        return alarms;
    }

    public int tides(int k, int lane, int f) {
        if (!isSheet(k) || !isLane(lane)) {
            return BAD;
        }
        int fault = sheets.faultAs(k, lane);
        if (fault != NO_FAULT) {
            return FAULTS - fault;
        }
        // All cells are looked at ahead of the first change: a refused call changes no tide.
        for (int i = 0; i < DAY; i++) {
            if (!sheets.hasCell(k, f + i)) {
                return FAULTS - INDEX;
            }
            if (!isHeight(sheets.cells[k][f + i])) {
                return CELLS - i;
            }
        }
        System.arraycopy(sheets.cells[k], f, land.tide, 0, DAY);
        return 1;
    }

    public int count(int what) {
        switch (what) {
            case 0: return land.ditches.size;
            case 1: return land.weirs.size;
            case 2: return land.pumps.size;
            case 3: return land.sluices.size;
            case 4: return worlds.size;
            case 5: return land.hour;
            case 6: return land.ditches.alarms();
            case 7: return land.spent;
            case 8: return Integer.bitCount(land.pumps.on);
            case 9: return land.ditches.allWater();
            default: return BAD;
        }
    }

    private static boolean within(int v, int low, int high) {
        return v >= low && v <= high;
    }

    private static boolean isHeight(int v) {
        return within(v, -HEIGHT, HEIGHT);
    }

    private static boolean isRain(int v) {
        return within(v, 0, MOST_RAIN);
    }

    private static boolean isHourOfDay(int hour) {
        return within(hour, 0, DAY - 1);
    }

    private static int hourOfDay(int hour) {
        return Math.floorMod(hour, DAY);
    }

    private static boolean isPlanned(int n) {
        return within(n, 1, AHEAD);
    }

    private static boolean isSheet(int k) {
        return within(k, 0, MOST_SHEETS - 1);
    }

    private static boolean isLane(int lane) {
        return within(lane, 0, MOST_LANES - 1);
    }

    /** The ditches. What asks for a row of water takes the true one as well as a row that a plan tries out. */
    private static final class Ditches {
        private final int[] area = new int[MOST_DITCHES];
        private final int[] bed = new int[MOST_DITCHES];
        private final int[] low = new int[MOST_DITCHES];
        private final int[] high = new int[MOST_DITCHES];
        private final int[] water = new int[MOST_DITCHES];
        private final int[] rained = new int[MOST_DITCHES];
        private final int[] drained = new int[MOST_DITCHES];
        private int size;

        private int add(int itsArea, int itsBed, int itsWater) {
            if (size >= MOST_DITCHES) {
                return FULL;
            }
            area[size] = itsArea;
            bed[size] = itsBed;
            low[size] = -BAND;
            high[size] = BAND;
            water[size] = itsWater;
            return size++;
        }

        private boolean has(int d) {
            return d >= 0 && d < size;
        }

        private int level(int d, int[] waters) {
            // Water is never below 0, so that the machine's division is the one down.
            return area[d] < 1 ? bed[d] : bed[d] + waters[d] / area[d];
        }

        private int breach(int d, int[] waters) {
            int level = level(d, waters);
            return level < low[d] ? low[d] - level : level > high[d] ? level - high[d] : 0;
        }

        private long allBreach(int[] waters) {
            long sum = 0;
            for (int d = 0; d < size; d++) {
                sum += breach(d, waters);
            }
            return sum;
        }

        private int alarms() {
            int alarms = 0;
            for (int d = 0; d < size; d++) {
                alarms += breach(d, water) > 0 ? 1 : 0;
            }
            return alarms;
        }

        private int allWater() {
            int sum = 0;
            for (int d = 0; d < size; d++) {
                sum += water[d];
            }
            return sum;
        }
    }

    /** The weirs. */
    private static final class Weirs {
        private final int[] from = new int[MOST_WEIRS];
        private final int[] to = new int[MOST_WEIRS];
        private final int[] crest = new int[MOST_WEIRS];
        private final int[] width = new int[MOST_WEIRS];
        private int size;

        private int add(int source, int target, int itsCrest, int itsWidth) {
            if (size >= MOST_WEIRS) {
                return FULL;
            }
            from[size] = source;
            to[size] = target;
            crest[size] = itsCrest;
            width[size] = itsWidth;
            return size++;
        }

        private boolean has(int w) {
            return w >= 0 && w < size;
        }
    }

    /** The pumps; which of them are on is a number with a bit for each, as in plans. */
    private static final class Pumps {
        private final int[] from = new int[MOST_PUMPS];
        private final int[] to = new int[MOST_PUMPS];
        private final int[] rate = new int[MOST_PUMPS];
        private final int[] least = new int[MOST_PUMPS];
        private final int[] pauses = new int[MOST_PUMPS];
        private final int[] cameOn = new int[MOST_PUMPS];
        private int on;
        private int size;

        private int add(int source, int target, int itsRate, int itsLeast, int itsPauses) {
            if (size >= MOST_PUMPS) {
                return FULL;
            }
            from[size] = source;
            to[size] = target;
            rate[size] = itsRate;
            least[size] = itsLeast;
            pauses[size] = itsPauses;
            return size++;
        }

        private boolean has(int p) {
            return p >= 0 && p < size;
        }

        private boolean isOn(int p) {
            return (on >> p & 1) != 0;
        }

        private boolean pausesAt(int p, int hour) {
            return (pauses[p] >> hourOfDay(hour) & 1) != 0;
        }

        /** Pauses hold a pump from coming on; one that is on still does not come on, it goes on up to the step. */
        private boolean mustStayOff(int p, int hour) {
            return !isOn(p) && pausesAt(p, hour);
        }

        private boolean mustRunOn(int p, int hour) {
            return isOn(p) && hour - cameOn[p] < least[p];
        }

        /** A pump that is on already does not come on: its run goes on from where it began. */
        private void put(int p, boolean is, int hour) {
            if (is && !isOn(p)) {
                cameOn[p] = hour;
            }
            on = is ? on | 1 << p : on & ~(1 << p);
        }

        /** Those of the pumps in the bits that do not pause in the hour. */
        private int awake(int bits, int hour) {
            int left = bits;
            for (int p = 0; p < size; p++) {
                if (pausesAt(p, hour)) {
                    left &= ~(1 << p);
                }
            }
            return left;
        }

        /** How many pumps plans tell of. */
        private int inPlans() {
            return Math.min(size, PLANNED_PUMPS);
        }
    }

    /** The sluices. */
    private static final class Sluices {
        private final int[] from = new int[MOST_SLUICES];
        private final int[] width = new int[MOST_SLUICES];
        private final boolean[] stands = new boolean[MOST_SLUICES];
        private int size;

        private int add(int source, int itsWidth) {
            if (size >= MOST_SLUICES) {
                return FULL;
            }
            from[size] = source;
            width[size] = itsWidth;
            return size++;
        }

        private boolean has(int s) {
            return s >= 0 && s < size;
        }
    }

    /** How much passed in one step. */
    private static final class Flow {
        private final int[] weirs = new int[MOST_WEIRS];
        private final int[] pumps = new int[MOST_PUMPS];
        private final int[] sluices = new int[MOST_SLUICES];
    }

    /** All that stands in the land, its hour, and how a step moves its water. */
    private static final class Land {
        private final Ditches ditches = new Ditches();
        private final Weirs weirs = new Weirs();
        private final Pumps pumps = new Pumps();
        private final Sluices sluices = new Sluices();
        private final Flow latest = new Flow();
        private final int[] tide = new int[DAY];
        private final int[] price = new int[DAY];
        private int hour;
        private int spent;

        private Land() {
            Arrays.fill(price, 1);
        }

        /** A true step: how many alarms there are behind it. */
        private int advance(int rain) {
            pumps.on = pumps.awake(pumps.on, hour);
            move(ditches.water, rain, hour, pumps.on, latest);
            for (int d = 0; d < ditches.size; d++) {
                ditches.rained[d] += rain * ditches.area[d];
            }
            drain();
            spent += cost(pumps.on, hour);
            hour++;
            return ditches.alarms();
        }

        /** Counts what the latest step let out of the land: what a pump brought to another ditch did not go out. */
        private void drain() {
            for (int p = 0; p < pumps.size; p++) {
                if (pumps.to[p] == NONE) {
                    ditches.drained[pumps.from[p]] += latest.pumps[p];
                }
            }
            for (int s = 0; s < sluices.size; s++) {
                ditches.drained[sluices.from[s]] += latest.sluices[s];
            }
        }

        private int cost(int pumpsOn, int when) {
            return price[hourOfDay(when)] * Integer.bitCount(pumpsOn);
        }

        /** Changes the row of water and the flow alone, so that plans can try steps out. */
        private void move(int[] water, int rain, int when, int pumpsOn, Flow flow) {
            for (int d = 0; d < ditches.size; d++) {
                water[d] += rain * ditches.area[d];
            }
            for (int w = 0; w < weirs.size; w++) {
                flow.weirs[w] = passWeir(w, water);
            }
            for (int p = 0; p < pumps.size; p++) {
                flow.pumps[p] = (pumpsOn >> p & 1) != 0 ? passPump(p, water) : 0;
            }
            for (int s = 0; s < sluices.size; s++) {
                flow.sluices[s] = sluices.stands[s] ? passSluice(s, water, tide[hourOfDay(when)]) : 0;
            }
        }

        private int passWeir(int w, int[] water) {
            int from = weirs.from[w];
            int to = weirs.to[w];
            // Levels times areas or widths may leave the range of int.
            long height = ditches.level(from, water) - Math.max(weirs.crest[w], ditches.level(to, water));
            long areas = ditches.area[from] + ditches.area[to];
            if (height <= 0 || areas < 1) {
                return 0;
            }
            long evened = ditches.area[from] * ditches.area[to] * height / areas;
            int passes = (int) Math.min(water[from], Math.min(weirs.width[w] * height, evened));
            water[from] -= passes;
            water[to] += passes;
            return passes;
        }

        private int passPump(int p, int[] water) {
            int from = pumps.from[p];
            int to = pumps.to[p];
            int passes = Math.min(pumps.rate[p], water[from]);
            water[from] -= passes;
            if (to != NONE) {
                water[to] += passes;
            }
            return passes;
        }

        private int passSluice(int s, int[] water, int outside) {
            int from = sluices.from[s];
            long height = ditches.level(from, water) - outside;
            if (height <= 0) {
                return 0;
            }
            int passes = (int) Math.min(sluices.width[s] * height, water[from]);
            water[from] -= passes;
            return passes;
        }
    }

    /** The worlds of rain foretold. */
    private static final class Worlds {
        private final int[][] rain = new int[MOST_WORLDS][AHEAD];
        private int size;

        private int add() {
            return size >= MOST_WORLDS ? FULL : size++;
        }

        private boolean has(int w) {
            return w >= 0 && w < size;
        }

        /** Without worlds, row 0 stands for the one without rain: nothing is foretold in it yet. */
        private int tried() {
            return Math.max(size, 1);
        }
    }

    /** Finds and judges plans. Its rows are made once: a search makes no objects. */
    private static final class Planner {
        /** A breach above that of any plan. */
        private static final long NONE_FOUND = 1L << 62;

        private final Land land;
        private final Worlds worlds;
        /** Row MOST_WORLDS k + w: the water of world w ahead of hour k. */
        private final int[][] waters = new int[(AHEAD + 1) * MOST_WORLDS][MOST_DITCHES];
        private final Flow flow = new Flow();
        private int hours;
        private int number;
        private long cost;
        private long breach;

        private Planner(Land itsLand, Worlds itsWorlds) {
            land = itsLand;
            worlds = itsWorlds;
        }

        /** Leaves the plan for n hours in number, cost and breach. */
        private void seek(int n) {
            hours = n;
            number = 0;
            cost = 0;
            breach = NONE_FOUND;
            begin();
            grow(this, 0, 0, 0, 0);
        }

        /** Lets a plan of k hours grow by an hour, and so on; the hours are at most AHEAD. */
        private static void grow(Planner it, int k, int soFar, long itsCost, long itsBreach) {
            if (k >= it.hours || k >= AHEAD) {
                it.number = soFar;
                it.cost = itsCost;
                it.breach = itsBreach;
                return;
            }
            int choices = 1 << it.land.pumps.inPlans();
            for (int bits = 0; bits < choices; bits++) {
                int longer = soFar | bits << PLANNED_PUMPS * k;
                long longerCost = itsCost + it.land.cost(bits, it.land.hour + k);
                if (!it.fits(k, longer) || !it.isBetter(longer, longerCost, itsBreach)) {
                    continue;
                }
                long longerBreach = itsBreach + it.tread(k, bits);
                if (it.isBetter(longer, longerCost, longerBreach)) {
                    grow(it, k + 1, longer, longerCost, longerBreach);
                }
            }
        }

        /** Number, cost and breach never fall as a plan grows: what is not better now won't be. */
        private boolean isBetter(int itsNumber, long itsCost, long itsBreach) {
            if (itsBreach != breach) {
                return itsBreach < breach;
            }
            return itsCost != cost ? itsCost < cost : itsNumber < number;
        }

        private boolean tells(int plan, int k, int p) {
            return (plan >> PLANNED_PUMPS * k + p & 1) != 0;
        }

        private int bitsOf(int plan, int k) {
            return plan >> PLANNED_PUMPS * k & (1 << PLANNED_PUMPS) - 1;
        }

        private boolean isPlan(int n, int plan) {
            if (plan < 0 || plan >= 1 << PLANNED_PUMPS * n) {
                return false;
            }
            for (int k = 0; k < n; k++) {
                if (bitsOf(plan, k) >= 1 << land.pumps.inPlans()) {
                    return false;
                }
            }
            return true;
        }

        private boolean isWell(int n, int plan) {
            for (int k = 0; k < n; k++) {
                if (!fits(k, plan)) {
                    return false;
                }
            }
            return true;
        }

        /** Whether hour k of the plan goes with the hours ahead of it. */
        private boolean fits(int k, int plan) {
            for (int p = 0; p < land.pumps.inPlans(); p++) {
                boolean on = tells(plan, k, p);
                if (on ? land.pumps.pausesAt(p, land.hour + k) : !mayEnd(k, plan, p)) {
                    return false;
                }
            }
            return true;
        }

        /** Whether a pump may be off in hour k; a run that began ahead of the plan may end at any time. */
        private boolean mayEnd(int k, int plan, int p) {
            int run = 0;
            while (run < k && tells(plan, k - 1 - run, p)) {
                run++;
            }
            return run == 0 || run >= land.pumps.least[p] || run == k && land.pumps.isOn(p);
        }

        private long costOf(int n, int plan) {
            long sum = 0;
            for (int k = 0; k < n; k++) {
                sum += land.cost(bitsOf(plan, k), land.hour + k);
            }
            return sum;
        }

        private long breachOf(int n, int plan) {
            begin();
            long sum = 0;
            for (int k = 0; k < n; k++) {
                sum += tread(k, bitsOf(plan, k));
            }
            return sum;
        }

        private void begin() {
            for (int w = 0; w < worlds.tried(); w++) {
                System.arraycopy(land.ditches.water, 0, waters[w], 0, land.ditches.size);
            }
        }

        /** The breach behind hour k in all worlds, with the first pumps as the bits tell. */
        private long tread(int k, int bits) {
            int when = land.hour + k;
            int others = land.pumps.on >> PLANNED_PUMPS << PLANNED_PUMPS;
            int on = bits | land.pumps.awake(others, when);
            long sum = 0;
            for (int w = 0; w < worlds.tried(); w++) {
                int[] water = waters[(k + 1) * MOST_WORLDS + w];
                System.arraycopy(waters[k * MOST_WORLDS + w], 0, water, 0, land.ditches.size);
                land.move(water, worlds.rain[w][k], when, on, flow);
                sum += land.ditches.allBreach(water);
            }
            return sum;
        }
    }

    /** The sheets; cells of all lanes are held as ints that are cut to the lane when they are laid. */
    private static final class Sheets {
        private static final int NOTHING = -1;

        private final int[][] cells = new int[MOST_SHEETS][MOST_CELLS];
        private final int[] lanes = new int[MOST_SHEETS];
        private final int[] sizes = new int[MOST_SHEETS];

        private Sheets() {
            Arrays.fill(sizes, NOTHING);
        }

        private void clear(int k, int lane, int n) {
            Arrays.fill(cells[k], 0);
            lanes[k] = lane;
            sizes[k] = n;
        }

        private boolean isNothing(int k) {
            return sizes[k] == NOTHING;
        }

        private boolean hasCell(int k, int i) {
            return i >= 0 && i < sizes[k];
        }

        private void put(int k, int i, int v) {
            cells[k][i] = lanes[k] == 0 ? (byte) v : lanes[k] == 1 ? (short) v : v;
        }

        /** The fault of taking a sheet as of a lane. */
        private int faultAs(int k, int lane) {
            return isNothing(k) ? NULL : lanes[k] != lane ? CAST : NO_FAULT;
        }
    }
}
