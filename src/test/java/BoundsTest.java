/**
 * Every number that the document bounds, on both sides: the last that is taken, the first that is refused, the ends
 * of int; the order of the answers; and that what is refused changes nothing, told by a twin that was not asked.
 */
final class BoundsTest {
    private static final int BAD = -1, STATE = -2, FULL = -3, FAR = -1000000;
    private static final int LOWEST = Integer.MIN_VALUE, HIGHEST = Integer.MAX_VALUE;
    private static final int NULL = -11, INDEX = -12, CAST = -13, SIZE = -14;

    /** A call on a land. */
    private interface Call {
        long on(LowLand x);
    }

    /** A call with one number that has bounds. */
    private interface Bounded {
        long on(LowLand x, int v);
    }

    private BoundsTest() {
    }

    public static void main(String[] args) {
        ditches();
        bands();
        told();
        weirs();
        pumps();
        sluices();
        turnAndOpen();
        tidesAndPrices();
        stepAndPassed();
        worldsAndForetell();
        plans();
        judgedNumbers();
        sheets();
        cells();
        rainOfSheets();
        cellsOfRain();
        tidesOfSheets();
        cellsOfTides();
        counts();
        fullLands();
        states();
        firstThatFits();
        answersThatAreNoRefusals();
        Due.end();
    }

    // ---- lands

    /** A land of everything, not full, in its fourth hour; hour 3 is in pump 3's pauses, pump 0 came on in hour 2. */
    private static LowLand furnished() {
        LowLand x = new LowLand();
        x.ditch(4, 0, 40);
        x.ditch(7, -3, 90);
        x.ditch(5, 2, 0);
        x.band(0, 2, 8);
        x.band(1, -3, 9);
        x.weir(0, 2, 3, 2);
        x.weir(1, 0, 5, 4);
        x.pump(0, LowLand.NONE, 6, 3, 1 << 5);
        x.pump(2, 1, 4, 2, 0);
        x.pump(1, LowLand.NONE, 3, 1, 0);
        x.sluice(1, 2);
        x.sluice(2, 1);
        x.open(0, true);
        for (int h = 0; h < 24; h++) {
            x.tide(h, h - 9);
            x.price(h, h % 5);
        }
        x.world();
        x.world();
        x.foretell(0, 0, 2);
        x.foretell(1, 4, 7);
        for (int k = 0; k < 3; k++) {
            x.sheet(k, k, 26);
            for (int i = 0; i < 26; i++) {
                x.lay(k, i, i + k);
            }
        }
        x.turn(2, true);
        x.step(1);
        x.step(0);
        x.turn(0, true);
        x.step(2);
        return x;
    }

    /** As many of all as there may be. */
    private static LowLand full() {
        LowLand x = new LowLand();
        for (int d = 0; d < 6; d++) {
            x.ditch(d + 1, 0, 10 * d);
        }
        for (int w = 0; w < 8; w++) {
            x.weir(w % 6, (w + 1) % 6, w, 1);
        }
        for (int p = 0; p < 4; p++) {
            x.pump(p, LowLand.NONE, 2, 2, 1 << 1);
            x.sluice(p, 1);
        }
        for (int w = 0; w < 3; w++) {
            x.world();
        }
        x.step(3);
        return x;
    }

    // ---- what is asked of them

    private static void refused(String what, Call call, long want) {
        refusedIn(what, furnished(), furnished(), call, want);
    }

    private static void refusedIn(String what, LowLand asked, LowLand twin, Call call, long want) {
        Due.is(what, call.on(asked), want);
        sameAsTwin(what, asked, twin);
    }

    /** Whether all that can be learned of two lands is one, in some 320 calls: they are worn out behind it. */
    private static void sameAsTwin(String what, LowLand asked, LowLand twin) {
        String why = what + " changed ";
        sameThings(why, asked, twin);
        samePlans(why, asked, twin);
        sameTurns(why, asked, twin);
        Due.is(why + "a step", asked.step(1), twin.step(1));
        sameThings(why, asked, twin);
        Due.is(why + "follow", asked.follow(2), twin.follow(2));
        Due.is(why + "the pumps", asked.count(8), twin.count(8));
        sameNumbers(why, asked, twin);
        sameSheets(why, asked, twin);
        sameThings(why, asked, twin);
    }

    private static void sameThings(String why, LowLand asked, LowLand twin) {
        for (int k = 0; k < 10; k++) {
            Due.is(why + "count", asked.count(k), twin.count(k));
        }
        for (int d = 0; d < twin.count(0); d++) {
            for (int k = 0; k < 5; k++) {
                Due.is(why + "told", asked.told(d, k), twin.told(d, k));
            }
        }
        for (int sort = 0; sort < 3; sort++) {
            for (int k = 0; k < twin.count(1 + sort); k++) {
                Due.is(why + "passed", asked.passed(sort, k), twin.passed(sort, k));
            }
        }
    }

    private static void samePlans(String why, LowLand asked, LowLand twin) {
        for (int n = 1; n <= 6; n++) {
            Due.is(why + "planned", asked.planned(n, 1), twin.planned(n, 1));
            Due.is(why + "the breach of none", asked.judge(n, 0, 2), twin.judge(n, 0, 2));
        }
        Due.is(why + "plan", asked.plan(3), twin.plan(3));
    }

    private static void sameTurns(String why, LowLand asked, LowLand twin) {
        for (int p = 0; p < twin.count(2); p++) {
            Due.is(why + "turn off", asked.turn(p, false), twin.turn(p, false));
            Due.is(why + "turn on", asked.turn(p, true), twin.turn(p, true));
            Due.is(why + "turn off again", asked.turn(p, false), twin.turn(p, false));
        }
        for (int s = 0; s < twin.count(3); s++) {
            Due.is(why + "open", asked.open(s, true), twin.open(s, true));
        }
    }

    private static void sameNumbers(String why, LowLand asked, LowLand twin) {
        for (int h = 0; h < 24; h++) {
            Due.is(why + "tide", asked.tide(h, 4), twin.tide(h, 4));
            Due.is(why + "price", asked.price(h, 4), twin.price(h, 4));
        }
    }

    private static void sameSheets(String why, LowLand asked, LowLand twin) {
        for (int k = 0; k < 4; k++) {
            for (int lane = 0; lane < 3; lane++) {
                Due.is(why + "tides", asked.tides(k, lane, 1), twin.tides(k, lane, 1));
            }
            for (int h = 0; h < 24; h++) {
                Due.is(why + "a cell", asked.tide(h, 0), twin.tide(h, 0));
            }
            Due.is(why + "rain", asked.rain(k, k % 3, 24, 3), twin.rain(k, k % 3, 24, 3));
        }
    }

    /** All of low to high is taken, what is ahead of it or behind it is not, whatever a call answers then. */
    private static void bounds(String what, int low, int high, long refusal, Bounded call) {
        int[] out = {LOWEST, LOWEST + 1, low - 2, low - 1, high + 1, high + 2, HIGHEST - 1, HIGHEST};
        for (int v : out) {
            if (v < low || v > high) {
                refused(what + " " + v, x -> call.on(x, v), refusal);
            }
        }
        int pace = Math.max(1, (high - low) / 64);
        for (int v = low; v < high; v += pace) {
            taken(what, v, call);
        }
        taken(what, high, call);
    }

    private static void taken(String what, int v, Bounded call) {
        Due.is(what + " " + v + " is taken", call.on(furnished(), v) >= 0 ? 1 : 0, 1);
    }

    // ---- promise by promise

    /** Promise 2; AREA 1 to 50, BED -500 to 500, WATER 0 to 100000 at first. */
    private static void ditches() {
        bounds("ditch: area", 1, 50, BAD, (x, v) -> x.ditch(v, 0, 0));
        bounds("ditch: bed", -500, 500, BAD, (x, v) -> x.ditch(1, v, 0));
        bounds("ditch: water", 0, 100000, BAD, (x, v) -> x.ditch(1, 0, v));
        for (int area : new int[] {1, 50}) {
            for (int bed : new int[] {-500, 500}) {
                for (int water : new int[] {0, 100000}) {
                    LowLand x = new LowLand();
                    Due.is("ditch", x.ditch(area, bed, water), 0);
                    Due.is("its water", x.told(0, 0), water);
                    Due.is("its level", x.told(0, 1), bed + water / area);
                }
            }
        }
    }

    /** Promise 3; LOW and HIGH -1000 to 1000 each, LOW up to HIGH. */
    private static void bands() {
        bounds("band: ditch", 0, 2, BAD, (x, v) -> x.band(v, 0, 0));
        bounds("band: low", -1000, 1000, BAD, (x, v) -> x.band(0, v, 1000));
        bounds("band: high", -1000, 1000, BAD, (x, v) -> x.band(0, -1000, v));
        bounds("band: low up to high", -1000, 5, BAD, (x, v) -> x.band(0, v, 5));
        bounds("band: high from low on", 5, 1000, BAD, (x, v) -> x.band(0, 5, v));
        bounds("band: both", -1000, 1000, BAD, (x, v) -> x.band(0, v, v));
        refused("no ditch", x -> new LowLand().band(0, 0, 0), BAD);
    }

    /** Promise 4; BAD -1000000. */
    private static void told() {
        for (int v : new int[] {LOWEST, -4, -2, -1, 3, 4, 6, HIGHEST}) {
            refused("told: ditch", x -> x.told(v, 0), FAR);
        }
        for (int v : new int[] {LOWEST, -2, -1, 5, 6, HIGHEST}) {
            refused("told: what", x -> x.told(0, v), FAR);
        }
        for (int what = -1; what < 6; what++) {
            Due.is("told of no ditch", new LowLand().told(0, what), FAR);
        }
    }

    /** Promise 5; from a DITCH to another one, CREST -500 to 500, WIDTH 1 to 50. */
    private static void weirs() {
        bounds("weir: from", 0, 2, BAD, (x, v) -> x.weir(v, v == 0 ? 1 : 0, 0, 1));
        bounds("weir: to", 0, 2, BAD, (x, v) -> x.weir(v == 0 ? 1 : 0, v, 0, 1));
        bounds("weir: crest", -500, 500, BAD, (x, v) -> x.weir(0, 1, v, 1));
        bounds("weir: width", 1, 50, BAD, (x, v) -> x.weir(0, 1, 0, v));
        for (int d = 0; d < 3; d++) {
            int itself = d;
            refused("weir: from and to are one", x -> x.weir(itself, itself, 0, 1), BAD);
        }
        refused("weir: out", x -> x.weir(0, LowLand.NONE, 0, 1), BAD);
        refused("weir: no ditches that are one", x -> x.weir(LowLand.NONE, LowLand.NONE, 0, 1), BAD);
    }

    /** Promise 6; to another DITCH or NONE, RATE 1 to 1000, LEAST RUN 1 to 6, PAUSES as bits of 24 hours. */
    private static void pumps() {
        bounds("pump: from", 0, 2, BAD, (x, v) -> x.pump(v, v == 0 ? 1 : 0, 1, 1, 0));
        bounds("pump: from, out", 0, 2, BAD, (x, v) -> x.pump(v, LowLand.NONE, 1, 1, 0));
        bounds("pump: rate", 1, 1000, BAD, (x, v) -> x.pump(0, 1, v, 1, 0));
        bounds("pump: least", 1, 6, BAD, (x, v) -> x.pump(0, 1, 1, v, 0));
        bounds("pump: pauses", 0, 16777215, BAD, (x, v) -> x.pump(0, 1, 1, 1, v));
        for (int v : new int[] {LOWEST, -6, -5, -3, -2, -1, 3, 4, HIGHEST}) {
            refused("pump: to", x -> x.pump(0, v, 1, 1, 0), BAD);
        }
        for (int d = 0; d < 3; d++) {
            int itself = d;
            refused("pump: from and to are one", x -> x.pump(itself, itself, 1, 1, 0), BAD);
        }
        for (int to : new int[] {LowLand.NONE, 1, 2}) {
            Due.is("pump: to", furnished().pump(0, to, 1, 1, 0), 3);
        }
        refused("pump: from NONE to NONE", x -> x.pump(LowLand.NONE, LowLand.NONE, 1, 1, 0), BAD);
        refused("pump: no ditch", x -> new LowLand().pump(0, LowLand.NONE, 1, 1, 0), BAD);
    }

    /** Promise 7; WIDTH 1 to 50. */
    private static void sluices() {
        bounds("sluice: from", 0, 2, BAD, (x, v) -> x.sluice(v, 1));
        bounds("sluice: width", 1, 50, BAD, (x, v) -> x.sluice(0, v));
        refused("sluice: no ditch", x -> new LowLand().sluice(0, 1), BAD);
    }

    /** Promises 8 and 9: numbers as they come. */
    private static void turnAndOpen() {
        bounds("turn: on", 0, 2, BAD, (x, v) -> x.turn(v, true));
        for (int v : new int[] {LOWEST, -4, -1, 3, 4, HIGHEST}) {
            refused("turn: off", x -> x.turn(v, false), BAD);
        }
        bounds("open", 0, 1, BAD, (x, v) -> x.open(v, true));
        bounds("shut", 0, 1, BAD, (x, v) -> x.open(v, false));
        refused("no pump", x -> new LowLand().turn(0, false), BAD);
        refused("no sluice", x -> new LowLand().open(0, false), BAD);
    }

    /** Promises 10 and 11; HOURS OF THE DAY 0 to 23, TIDE -500 to 500, PRICE 0 to 100. */
    private static void tidesAndPrices() {
        for (int v : new int[] {LOWEST, -24, -1, 24, 25, HIGHEST}) {
            refused("tide: hour", x -> x.tide(v, 0), FAR);
        }
        for (int v : new int[] {LOWEST, -502, -501, 501, 502, HIGHEST}) {
            refused("tide", x -> x.tide(0, v), FAR);
            refused("tide of the last hour", x -> x.tide(23, v), FAR);
        }
        LowLand x = new LowLand();
        for (int h = 0; h < 24; h++) {
            Due.is("tide at first", x.tide(h, -500), 0);
            Due.is("the lowest tide", x.tide(h, 500), -500);
        }
        for (int h = 0; h < 24; h++) {
            Due.is("the highest tide", x.tide(h, 0), 500);
        }
        bounds("price: hour", 0, 23, BAD, (y, v) -> y.price(v, 0));
        bounds("price", 0, 100, BAD, (y, v) -> y.price(0, v));
        for (int h = 0; h < 24; h++) {
            Due.is("price at first", x.price(h, 0), 1);
            Due.is("the lowest price", x.price(h, 100), 0);
        }
        for (int h = 0; h < 24; h++) {
            Due.is("the highest price", x.price(h, 1), 100);
        }
    }

    /** Promises 12 and 13; RAIN 0 to 100; sorts 0 to 2. */
    private static void stepAndPassed() {
        bounds("step", 0, 100, BAD, LowLand::step);
        bounds("passed: sort", 0, 2, BAD, (x, v) -> x.passed(v, 0));
        bounds("passed: weir", 0, 1, BAD, (x, v) -> x.passed(0, v));
        bounds("passed: pump", 0, 2, BAD, (x, v) -> x.passed(1, v));
        bounds("passed: sluice", 0, 1, BAD, (x, v) -> x.passed(2, v));
        for (int sort = 0; sort < 3; sort++) {
            Due.is("passed: nothing", new LowLand().passed(sort, 0), BAD);
        }
    }

    /** Promises 14 and 15; hours 0 to 5, RAIN 0 to 100. */
    private static void worldsAndForetell() {
        bounds("foretell: world", 0, 1, BAD, (x, v) -> x.foretell(v, 0, 1));
        bounds("foretell: hour", 0, 5, BAD, (x, v) -> x.foretell(0, v, 1));
        bounds("foretell: rain", 0, 100, BAD, (x, v) -> x.foretell(0, 0, v));
        refused("no world", x -> new LowLand().foretell(0, 0, 0), BAD);
    }

    /** Promises 16, 17 and 19; 1 to 6 hours; what 0 and 1. */
    private static void plans() {
        bounds("plan", 1, 6, BAD, LowLand::plan);
        bounds("planned: hours", 1, 6, BAD, (x, v) -> x.planned(v, 0));
        bounds("planned: hours", 1, 6, BAD, (x, v) -> x.planned(v, 1));
        bounds("planned: what", 0, 1, BAD, (x, v) -> x.planned(6, v));
        bounds("follow", 1, 6, BAD, LowLand::follow);
        Due.is("BAD of none", new LowLand().plan(7) + new LowLand().follow(0) + new LowLand().planned(1, 2), -3);
    }

    /** Promise 18; 1 to 6 hours, numbers of two bits an hour, what 0 to 2. */
    private static void judgedNumbers() {
        bounds("judge: hours", 1, 6, BAD, (x, v) -> x.judge(v, 0, 0));
        bounds("judge: what", 0, 2, BAD, (x, v) -> x.judge(6, 0, v));
        for (int n = 1; n <= 6; n++) {
            int hours = n;
            for (int what = 0; what < 3; what++) {
                int asked = what;
                bounds("judge: number", 0, (1 << 2 * n) - 1, BAD, (x, v) -> x.judge(hours, v, asked));
            }
        }
    }

    /** Promise 20; SHEETS 0 to 3, lanes 0 to 2, 0 to 60 CELLS. */
    private static void sheets() {
        bounds("sheet", 0, 3, BAD, (x, v) -> x.sheet(v, 0, 1));
        bounds("sheet: lane", 0, 2, BAD, (x, v) -> x.sheet(0, v, 1));
        for (int lane = 0; lane < 3; lane++) {
            int its = lane;
            for (int n = 0; n <= 60; n++) {
                LowLand x = furnished();
                Due.is("sheet: cells", x.sheet(3, its, n), 1);
                Due.is("the last cell", x.lay(3, n - 1, 1), n == 0 ? INDEX : 1);
                Due.is("behind it", x.lay(3, n, 1), INDEX);
            }
            for (int n : new int[] {61, 62, 120, 256, 65536, HIGHEST}) {
                refused("sheet: more cells", x -> x.sheet(1, its, n), BAD);
            }
            for (int n : new int[] {-1, -2, -60, LOWEST}) {
                refused("SIZE", x -> x.sheet(1, its, n), SIZE);
                refused("SIZE of nothing", x -> x.sheet(3, its, n), SIZE);
            }
        }
    }

    /** Promise 21; k 0 to 3, the CELLS that there are. */
    private static void cells() {
        for (int k : new int[] {LOWEST, -2, -1, 4, 5, HIGHEST}) {
            refused("lay: k", x -> x.lay(k, 0, 1), BAD);
            refused("lay: k, whatever else", x -> x.lay(k, -1, 1), BAD);
        }
        refused("lay: nothing", x -> x.lay(3, 0, 1), NULL);
        refused("lay: nothing, whatever cell", x -> x.lay(3, -1, 1), NULL);
        for (int k = 0; k < 3; k++) {
            int it = k;
            bounds("lay: cell", 0, 25, INDEX, (x, v) -> x.lay(it, v, 1));
        }
    }

    /** Promises 22 and 23; k 0 to 3, lanes 0 to 2, 0 to 24 cells; NULL, CAST, INDEX in that order. */
    private static void rainOfSheets() {
        for (int v : new int[] {LOWEST, -2, -1, 4, 5, HIGHEST}) {
            refused("rain: k", x -> x.rain(v, 0, 0, 1), BAD);
            refused("tides: k", x -> x.tides(v, 0, 0), BAD);
        }
        for (int k = 0; k < 3; k++) {
            Due.is("rain of k", furnished().rain(k, k, 0, 1) >= 0 ? 1 : 0, 1);
            Due.is("tides of k", furnished().tides(k, k, 0), 1);
        }
        for (int v : new int[] {LOWEST, -1, 3, HIGHEST}) {
            refused("rain: lane", x -> x.rain(0, v, 0, 1), BAD);
            refused("rain: lane of nothing", x -> x.rain(3, v, 0, 1), BAD);
        }
        for (int v : new int[] {LOWEST, -2, -1, 25, 26, HIGHEST}) {
            refused("rain: n", x -> x.rain(0, 0, 0, v), BAD);
            refused("rain: n, of nothing", x -> x.rain(3, 0, 0, v), BAD);
            refused("rain: n, of another lane", x -> x.rain(0, 1, 0, v), BAD);
        }
        for (int n = 0; n <= 24; n++) {
            LowLand x = furnished();
            Due.is("rain: n is taken", x.rain(0, 0, 1, n) >= 0 ? 1 : 0, 1);
            Due.is("as many hours", x.count(5), 3 + n);
        }
        for (int lane = 0; lane < 3; lane++) {
            int as = lane;
            refused("rain: NULL", x -> x.rain(3, as, 99, 1), NULL);
            refused("rain: NULL of no cells", x -> x.rain(3, as, 0, 0), NULL);
            for (int k = 0; k < 3; k++) {
                int it = k;
                if (k != lane) {
                    refused("rain: CAST", x -> x.rain(it, as, -1, 1), CAST);
                    refused("rain: CAST of no cells", x -> x.rain(it, as, 0, 0), CAST);
                }
            }
        }
        bounds("rain: f", 0, 25, INDEX, (x, v) -> x.rain(0, 0, v, 1));
        for (int v : new int[] {LOWEST, LOWEST + 1, -24, -23, -1, 26, HIGHEST - 23, HIGHEST}) {
            refused("rain: f is met first, whatever f + i comes to", x -> x.rain(0, 0, v, 24), INDEX);
            refused("rain: no cell is met", x -> x.rain(0, 0, v, 0), 0);
        }
    }

    /** Promise 22; RAIN 0 to 100 in a cell; -20 less i for all i; STEPS ahead of it were made. */
    private static void cellsOfRain() {
        for (int v : new int[] {0, 1, 99, 100}) {
            for (int lane = 0; lane < 3; lane++) {
                LowLand x = rainSheet(lane, 1);
                x.lay(0, 0, v);
                Due.is("a cell of rain", x.rain(0, lane, 0, 1), 0);
                Due.is("it rained", x.told(0, 3), v);
            }
        }
        int[][] none = {{0, -1}, {0, -128}, {0, 101}, {0, 127}, {1, -1}, {1, -32768}, {1, 101}, {1, 32767}, {2, -1},
            {2, LOWEST}, {2, 101}, {2, HIGHEST}};
        for (int[] row : none) {
            LowLand x = rainSheet(row[0], 1);
            x.lay(0, 0, row[1]);
            Due.is("no cell of rain", x.rain(0, row[0], 0, 1), -20);
            Due.is("no hour", x.count(5), 0);
            Due.is("no rain", x.told(0, 3), 0);
        }
        for (int i = 0; i < 24; i++) {
            LowLand x = rainSheet(1, 24);
            x.lay(0, i, 101);
            Due.is("no rain in cell f + i", x.rain(0, 1, 0, 24), -20 - i);
            Due.is("hours ahead of it", x.count(5), i);
            Due.is("rain ahead of it", x.told(0, 3), i);
            LowLand y = rainSheet(1, i);
            Due.is("no cell f + i", y.rain(0, 1, 0, 24), INDEX);
            Due.is("hours ahead of it", y.count(5), i);
            Due.is("rain ahead of it", y.told(0, 3), i);
        }
        LowLand z = rainSheet(2, 60);
        Due.is("the last 24 of 60 cells", z.rain(0, 2, 36, 24), 0);
        Due.is("one more is none", z.rain(0, 2, 37, 24), INDEX);
        Due.is("hours of both", z.count(5), 24 + 23);
    }

    /** A ditch of area 1, and a sheet of n cells of rain 1. */
    private static LowLand rainSheet(int lane, int n) {
        LowLand x = new LowLand();
        x.ditch(1, 0, 0);
        x.sheet(0, lane, n);
        for (int i = 0; i < n; i++) {
            x.lay(0, i, 1);
        }
        return x;
    }

    /** Promise 23; lanes 0 to 2; 24 cells from f on; NULL, CAST, INDEX in that order. */
    private static void tidesOfSheets() {
        bounds("tides: f", 0, 2, INDEX, (x, v) -> x.tides(2, 2, v));
        for (int v : new int[] {LOWEST, -1, 3, HIGHEST}) {
            refused("tides: lane", x -> x.tides(0, v, 0), BAD);
            refused("tides: lane of nothing", x -> x.tides(3, v, 0), BAD);
        }
        for (int lane = 0; lane < 3; lane++) {
            int as = lane;
            refused("tides: NULL", x -> x.tides(3, as, -1), NULL);
            for (int k = 0; k < 3; k++) {
                int it = k;
                if (k != lane) {
                    refused("tides: CAST", x -> x.tides(it, as, -1), CAST);
                }
            }
        }
        for (int n : new int[] {0, 1, 23, 24, 25, 60}) {
            LowLand x = new LowLand();
            x.sheet(0, 1, n);
            Due.is("tides of n cells", x.tides(0, 1, 0), n < 24 ? INDEX : 1);
            Due.is("the last 24", x.tides(0, 1, n - 24), n < 24 ? INDEX : 1);
            Due.is("one more is none", x.tides(0, 1, n - 23), INDEX);
        }
    }

    /** Promise 23; TIDE -500 to 500 in a cell; -20 less i for all i; then none changed. */
    private static void cellsOfTides() {
        for (int i = 0; i < 24; i++) {
            for (int v : new int[] {-500, 500}) {
                LowLand x = tideSheet(1, 24);
                x.lay(0, i, v);
                Due.is("a cell of tide", x.tides(0, 1, 0), 1);
                for (int h = 0; h < 24; h++) {
                    Due.is("tide", x.tide(h, 0), h == i ? v : 1);
                }
            }
            for (int v : new int[] {-501, 501}) {
                LowLand x = tideSheet(2, 24);
                x.lay(0, i, v);
                Due.is("no cell of tide", x.tides(0, 2, 0), -20 - i);
                for (int h = 0; h < 24; h++) {
                    Due.is("none changed", x.tide(h, 0), 0);
                }
            }
            LowLand y = tideSheet(0, i);
            Due.is("no cell f + i", y.tides(0, 0, 0), INDEX);
            for (int h = 0; h < 24; h++) {
                Due.is("none changed", y.tide(h, 0), 0);
            }
        }
        for (int v : new int[] {-128, 127}) {
            LowLand x = tideSheet(0, 24);
            x.lay(0, 23, v);
            Due.is("all bytes are tides", x.tides(0, 0, 0), 1);
            Due.is("tide", x.tide(23, 0), v);
        }
        int[][] none = {{1, -32768}, {1, 32767}, {2, LOWEST}, {2, HIGHEST}};
        for (int[] row : none) {
            LowLand x = tideSheet(row[0], 24);
            x.lay(0, 23, row[1]);
            Due.is("no cell of tide", x.tides(0, row[0], 0), -43);
        }
    }

    private static LowLand tideSheet(int lane, int n) {
        LowLand x = new LowLand();
        x.sheet(0, lane, n);
        for (int i = 0; i < n; i++) {
            x.lay(0, i, 1);
        }
        return x;
    }

    /** Promise 24; what 0 to 9. */
    private static void counts() {
        bounds("count", 0, 9, BAD, LowLand::count);
        Due.is("count behind the last, of none", new LowLand().count(10), BAD);
        Due.is("count ahead of the first, of none", new LowLand().count(-1), BAD);
    }

    /** FULL: 6 DITCHES, 8 WEIRS, 4 PUMPS, 4 SLUICES, 3 WORLDS; each number but the last one more is taken. */
    private static void fullLands() {
        LowLand x = new LowLand();
        for (int d = 0; d < 6; d++) {
            Due.is("as they come", x.ditch(1, 0, 0), d);
            Due.is("as many", x.count(0), d + 1);
        }
        for (int w = 0; w < 8; w++) {
            Due.is("as they come", x.weir(5, w % 5, 0, 1), w);
            Due.is("as many", x.count(1), w + 1);
        }
        for (int p = 0; p < 4; p++) {
            Due.is("as they come", x.pump(5, p, 1, 1, 0), p);
            Due.is("as many", x.count(2), p + 1);
            Due.is("as they come", x.sluice(5, 1), p);
            Due.is("as many", x.count(3), p + 1);
        }
        for (int w = 0; w < 3; w++) {
            Due.is("as they come", x.world(), w);
            Due.is("as many", x.count(4), w + 1);
        }
        refusedIn("a seventh ditch", full(), full(), y -> y.ditch(1, 0, 0), FULL);
        refusedIn("a ninth weir", full(), full(), y -> y.weir(0, 1, 0, 1), FULL);
        refusedIn("a fifth pump", full(), full(), y -> y.pump(0, LowLand.NONE, 1, 1, 0), FULL);
        refusedIn("a fifth sluice", full(), full(), y -> y.sluice(0, 1), FULL);
        refusedIn("a fourth world", full(), full(), LowLand::world, FULL);
        refusedIn("a fifth world", full(), full(), y -> y.world() + y.world(), 2 * FULL);
        LowLand y = full();
        Due.is("the sixth ditch", y.told(5, 3), 3 * 6);
        Due.is("no seventh", y.told(6, 0), FAR);
        Due.is("no ninth weir", y.passed(0, 8), BAD);
        Due.is("no fifth pump", y.passed(1, 4), BAD);
        Due.is("no fifth sluice", y.passed(2, 4), BAD);
        Due.is("no fifth pump", y.turn(4, false), BAD);
        Due.is("no fifth sluice", y.open(4, true), BAD);
        Due.is("no fourth world", y.foretell(3, 0, 0), BAD);
    }

    /** STATE changes nothing: neither whether a pump is on nor when it came on. */
    private static void states() {
        refused("in its least run", x -> x.turn(0, false), STATE);
        LowLand[] two = {full(), full()};
        for (int p = 0; p < 4; p++) {
            int it = p;
            refusedIn("in its pauses", full(), full(), x -> x.turn(it, true), STATE);
            Due.is("in its pauses", two[0].turn(p, true), STATE);
        }
        sameAsTwin("all in their pauses", two[0], two[1]);
    }

    /** Answers: BAD, STATE, FULL, the first that fits. */
    private static void firstThatFits() {
        for (int v : new int[] {LOWEST, -1, HIGHEST}) {
            refusedIn("BAD ahead of FULL", full(), full(), x -> x.ditch(v, 0, 0), BAD);
            refusedIn("BAD ahead of FULL", full(), full(), x -> x.ditch(1, v == -1 ? 501 : v, 0), BAD);
            refusedIn("BAD ahead of FULL", full(), full(), x -> x.ditch(1, 0, v), BAD);
            refusedIn("BAD ahead of FULL", full(), full(), x -> x.weir(v, 1, 0, 1), BAD);
            refusedIn("BAD ahead of FULL", full(), full(), x -> x.weir(0, v, 0, 1), BAD);
            refusedIn("BAD ahead of FULL", full(), full(), x -> x.weir(0, 1, v == -1 ? 501 : v, 1), BAD);
            refusedIn("BAD ahead of FULL", full(), full(), x -> x.weir(0, 1, 0, v), BAD);
            refusedIn("BAD ahead of FULL", full(), full(), x -> x.pump(v, 1, 1, 1, 0), BAD);
            refusedIn("BAD ahead of FULL", full(), full(), x -> x.pump(0, v, 1, 1, 0), BAD);
            refusedIn("BAD ahead of FULL", full(), full(), x -> x.pump(0, 1, v, 1, 0), BAD);
            refusedIn("BAD ahead of FULL", full(), full(), x -> x.pump(0, 1, 1, v, 0), BAD);
            refusedIn("BAD ahead of FULL", full(), full(), x -> x.pump(0, 1, 1, 1, v), BAD);
            refusedIn("BAD ahead of FULL", full(), full(), x -> x.sluice(v, 1), BAD);
            refusedIn("BAD ahead of FULL", full(), full(), x -> x.sluice(0, v), BAD);
        }
        refusedIn("from and to are one: BAD ahead of FULL", full(), full(), x -> x.weir(1, 1, 0, 1), BAD);
        refusedIn("from and to are one: BAD ahead of FULL", full(), full(), x -> x.pump(1, 1, 1, 1, 0), BAD);
        refusedIn("BAD ahead of STATE", full(), full(), x -> x.turn(4, true), BAD);
        refused("BAD ahead of SIZE", x -> x.sheet(4, 0, -1), BAD);
        refused("BAD ahead of SIZE", x -> x.sheet(-1, 0, -1), BAD);
        refused("BAD ahead of SIZE", x -> x.sheet(0, 3, -1), BAD);
        refused("BAD ahead of SIZE", x -> x.sheet(0, -1, -1), BAD);
        refused("NULL ahead of INDEX", x -> x.lay(3, 99, 0), NULL);
        refused("CAST ahead of INDEX", x -> x.rain(0, 1, 99, 1), CAST);
        refused("CAST ahead of INDEX", x -> x.tides(0, 1, 99), CAST);
        LowLand x = rainSheet(0, 2);
        x.lay(0, 0, -1);
        Due.is("CAST ahead of a cell", x.rain(0, 1, 0, 3), CAST);
        Due.is("a cell ahead of INDEX, as it is met first", x.rain(0, 0, 0, 3), -20);
        Due.is("INDEX ahead of a cell, as it is met first", x.rain(0, 0, -1, 3), INDEX);
        Due.is("CAST ahead of a cell", x.tides(0, 1, 0), CAST);
        Due.is("INDEX ahead of a cell, as it is met first", x.tides(0, 0, -1), INDEX);
    }

    /** A TIDE of -1, a LEVEL of -1 and the like are answers as well. */
    private static void answersThatAreNoRefusals() {
        LowLand x = new LowLand();
        Due.is("ditch", x.ditch(1, -1, 0), 0);
        Due.is("a level of -1", x.told(0, 1), -1);
        Due.is("tide", x.tide(0, -1), 0);
        Due.is("a tide of -1", x.tide(0, -4), -1);
        Due.is("a tide of -4", x.tide(0, 0), -4);
        Due.is("ditch", x.ditch(1, -500, 0), 1);
        Due.is("the lowest level of all", x.told(1, 1), -500);
    }
}
