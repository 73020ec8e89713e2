/**
 * The edges that the document's sentences name beside the bounds of numbers: none and all, equal and one off, the hour
 * that wraps around, division down, "the least of", "if that is less", "up to the end". Each test tells its sentence.
 */
final class EdgesTest {
    private static final int STATE = -2;
    private static final int OUT = LowLand.NONE;

    private EdgesTest() {
    }

    public static void main(String[] args) {
        levelIsDividedDown();
        waterLaterAsItComes();
        hourOfTheDayIsModulo24();
        rainTimesArea();
        weirAboveZero();
        weirOfTheGreater();
        weirOfTheLeast();
        weirsByNumbers();
        pumpOfRateOrWater();
        pumpsByNumbers();
        sluiceAboveZero();
        sluiceOfWidthOrWater();
        sluicesByNumbers();
        costOfPumpsThatAreOn();
        breachAtTheEdges();
        alarmsOfAll();
        turnInEachHour();
        turnBehindEachLeastRun();
        pausesOverMidnight();
        passedInTheLatestStep();
        toldSoFar();
        landOfNothing();
        Due.end();
    }

    private static LowLand land(int... waters) {
        LowLand x = new LowLand();
        for (int water : waters) {
            x.ditch(10, 0, water);
        }
        return x;
    }

    private static void steps(LowLand x, int n) {
        for (int i = 0; i < n; i++) {
            x.step(0);
        }
    }

    /** "Divided down is to the next whole number below (or that itself)"; "its BED, and its WATER divided down". */
    private static void levelIsDividedDown() {
        for (int area : new int[] {1, 2, 7, 49, 50}) {
            for (int bed : new int[] {-500, -1, 0, 1, 500}) {
                int[][] due = {{0, 0}, {area - 1, 0}, {area, 1}, {2 * area - 1, 1}, {2 * area, 2},
                    {100 * area - 1, 99}};
                for (int[] row : due) {
                    LowLand x = new LowLand();
                    x.ditch(area, bed, row[0]);
                    Due.is("level of area " + area, x.told(0, 1), bed + row[1]);
                }
            }
        }
    }

    /** "WATER (0 to 100000 at first; later as it comes, never below 0)". */
    private static void waterLaterAsItComes() {
        LowLand x = new LowLand();
        x.ditch(50, 500, 100000);
        x.step(100);
        Due.is("above what it may be at first", x.told(0, 0), 105000);
        Due.is("its level", x.told(0, 1), 2600);
        LowLand y = new LowLand();
        y.ditch(1, 500, 1);
        y.ditch(1, -500, 0);
        y.weir(0, 1, -500, 50);
        y.pump(0, OUT, 1000, 1, 0);
        y.sluice(0, 50);
        y.sluice(1, 50);
        y.tide(0, -500);
        y.turn(0, true);
        y.open(0, true);
        y.open(1, true);
        y.step(0);
        Due.is("never below 0", y.told(0, 0), 0);
        Due.is("never below 0", y.told(1, 0), 0);
        Due.is("all over the weir", y.passed(0, 0), 1);
        Due.is("none is left for the pump", y.passed(1, 0), 0);
        Due.is("nor for the sluice", y.passed(2, 0), 0);
        Due.is("out from where it came", y.passed(2, 1), 1);
    }

    /** "The HOUR OF THE DAY is the hour modulo 24": TIDE, PRICE and PAUSES of hours 23, 24, 47 and 48. */
    private static void hourOfTheDayIsModulo24() {
        for (int h = 0; h < 24; h++) {
            LowLand x = new LowLand();
            x.ditch(1, 0, 100);
            x.pump(0, OUT, 1, 1, 1 << h);
            x.sluice(0, 1);
            x.open(0, true);
            for (int i = 0; i < 24; i++) {
                x.tide(i, i == h ? 60 : 500);
                x.price(i, i + 1);
            }
            for (int i = 0; i < 49; i++) {
                boolean isIt = i % 24 == h;
                Due.is("hour", x.count(5), i);
                Due.is("pauses", x.turn(0, true), isIt ? STATE : 0);
                int spent = x.count(7), level = x.told(0, 1);
                x.step(2);
                Due.is("price", x.count(7) - spent, isIt ? 0 : i % 24 + 1);
                Due.is("pump", x.passed(1, 0), isIt ? 0 : 1);
                Due.is("sluice", x.passed(2, 0), isIt ? level + 2 - 60 : 0);
                x.turn(0, false);
            }
        }
    }

    /** "First WATER of each DITCH gets RAIN times its AREA": ahead of weirs, pumps and sluices. */
    private static void rainTimesArea() {
        for (int area : new int[] {1, 2, 50}) {
            for (int rain : new int[] {0, 1, 100}) {
                LowLand x = new LowLand();
                x.ditch(area, 0, 0);
                x.ditch(51 - area, 500, 3);
                x.step(rain);
                Due.is("water", x.told(0, 0), rain * area);
                Due.is("of each", x.told(1, 0), 3 + rain * (51 - area));
                Due.is("rain so far", x.told(0, 3), rain * area);
            }
        }
        LowLand x = land(0);
        x.pump(0, OUT, 1000, 1, 0);
        x.turn(0, true);
        x.step(7);
        Due.is("there for the pump", x.passed(1, 0), 70);
        LowLand y = land(0, 0);
        y.weir(0, 1, 6, 1);
        y.pump(1, OUT, 1000, 1, 0);
        y.turn(0, true);
        y.step(7);
        Due.is("of all ditches ahead of the weir", y.passed(0, 0), 0);
        LowLand z = land(0);
        z.sluice(0, 50);
        z.open(0, true);
        z.step(7);
        Due.is("there for the sluice", z.passed(2, 0), 70);
    }

    /** "Above 0 it passes": 0 and less do not. */
    private static void weirAboveZero() {
        int[][] due = {{100, 9, 5}, {109, 9, 5}, {99, 9, 0}, {100, 10, 0}, {100, 11, 0}, {100, 500, 0}, {0, 0, 0},
            {0, -500, 0}};
        for (int[] row : due) {
            LowLand x = land(row[0], 0);
            x.weir(0, 1, row[1], 50);
            x.step(0);
            Due.is("over a crest of " + row[1], x.passed(0, 0), row[2]);
            Due.is("what left", x.told(0, 0), row[0] - row[2]);
            Due.is("what came", x.told(1, 0), row[2]);
        }
        LowLand x = land(50, 60);
        x.weir(0, 1, 0, 50);
        x.step(0);
        Due.is("none flows back", x.passed(0, 0), 0);
        Due.is("none flows back", x.told(1, 0), 60);
    }

    /** "The greater of the CREST and the LEVEL of the other one", one off and equal. */
    private static void weirOfTheGreater() {
        int[][] due = {{0, 0, 20}, {4, 30, 16}, {4, 40, 16}, {4, 49, 16}, {4, 50, 15}, {5, 50, 15}, {5, 40, 15},
            {-500, 190, 1}, {-500, 199, 1}, {-500, 200, 0}, {19, 0, 1}, {20, 0, 0}};
        for (int[] row : due) {
            LowLand x = land(200, row[1]);
            x.weir(0, 1, row[0], 1);
            x.step(0);
            Due.is("crest " + row[0] + ", water " + row[1], x.passed(0, 0), row[2]);
        }
        LowLand y = new LowLand();
        y.ditch(1, -400, 0);
        y.ditch(1, -450, 20);
        y.weir(0, 1, -500, 50);
        y.step(10);
        // Levels of -390 and -420 behind the rain.
        Due.is("levels below 0", y.passed(0, 0), 10);
        Due.is("the other's level", y.told(1, 1), -410);
    }

    /** "The least of WIDTH times H, of both AREAS' product times H divided down by their sum, of its WATER". */
    private static void weirOfTheLeast() {
        // Areas 10 and 10, H 10: 50 to the level evened.
        int[][] byWidth = {{1, 10}, {4, 40}, {5, 50}, {6, 50}, {50, 50}};
        for (int[] row : byWidth) {
            LowLand x = land(100, 0);
            x.weir(0, 1, -500, row[0]);
            x.step(0);
            Due.is("width " + row[0], x.passed(0, 0), row[1]);
        }
        // Areas, H: their product times H divided down by their sum.
        int[][] byAreas = {{1, 1, 1, 0}, {1, 1, 2, 1}, {1, 1, 3, 1}, {1, 50, 1, 0}, {1, 50, 2, 1}, {2, 3, 4, 4},
            {2, 3, 5, 6}, {50, 50, 1, 25}, {50, 49, 1, 24}, {3, 7, 9, 18}, {7, 3, 9, 18}};
        for (int[] row : byAreas) {
            LowLand x = new LowLand();
            x.ditch(row[0], 0, row[0] * row[2]);
            x.ditch(row[1], 0, 0);
            x.weir(0, 1, -500, 50);
            x.step(0);
            Due.is("areas " + row[0] + ", " + row[1], x.passed(0, 0), row[3]);
        }
        // A bed of 20 above: H is 20 and more, 100 would be evened.
        int[][] byWater = {{0, 0}, {1, 1}, {99, 99}, {100, 100}, {101, 100}, {109, 100}, {110, 105}};
        for (int[] row : byWater) {
            LowLand x = new LowLand();
            x.ditch(10, row[0] < 100 ? 20 : 10, row[0]);
            x.ditch(10, 0, 0);
            x.weir(0, 1, -500, 50);
            x.step(0);
            Due.is("water " + row[0], x.passed(0, 0), row[1]);
        }
    }

    /** "Then WEIRS by numbers", "each is reckoned by what is there then". */
    private static void weirsByNumbers() {
        LowLand x = land(80, 0, 0);
        x.weir(0, 1, 0, 50);
        x.weir(1, 2, 0, 50);
        x.weir(0, 2, 0, 50);
        x.step(0);
        Due.is("first", x.passed(0, 0), 40);
        Due.is("of what came by the first", x.passed(0, 1), 20);
        Due.is("of what the first left", x.passed(0, 2), 10);
        LowLand y = land(80, 0, 0);
        y.weir(1, 2, 0, 50);
        y.weir(0, 1, 0, 50);
        y.step(0);
        Due.is("the first finds nothing", y.passed(0, 0), 0);
        Due.is("second", y.passed(0, 1), 40);
    }

    /** "RATE, or its WATER, if that is less". */
    private static void pumpOfRateOrWater() {
        int[][] due = {{0, 0}, {1, 1}, {29, 29}, {30, 30}, {31, 30}, {100000, 30}};
        for (int[] row : due) {
            for (int to : new int[] {OUT, 1}) {
                LowLand x = land(row[0], 5);
                x.pump(0, to, 30, 1, 0);
                x.turn(0, true);
                x.step(0);
                Due.is("of " + row[0], x.passed(1, 0), row[1]);
                Due.is("what is left", x.told(0, 0), row[0] - row[1]);
                Due.is("what came", x.told(1, 0), to == OUT ? 5 : 5 + row[1]);
            }
        }
        LowLand x = new LowLand();
        x.ditch(1, -500, 30);
        x.ditch(1, 500, 0);
        x.pump(0, 1, 30, 1, 0);
        x.turn(0, true);
        x.step(0);
        Due.is("up the land too", x.passed(1, 0), 30);
    }

    /** "Then PUMPS that are on by numbers", and behind the weirs. */
    private static void pumpsByNumbers() {
        LowLand x = land(100, 0, 0);
        x.pump(0, 1, 70, 1, 0);
        x.pump(0, 2, 70, 1, 0);
        x.pump(1, 2, 90, 1, 0);
        x.pump(0, 2, 70, 1, 0);
        for (int p = 0; p < 4; p++) {
            x.turn(p, true);
        }
        x.step(0);
        int[] due = {70, 30, 70, 0};
        for (int p = 0; p < 4; p++) {
            Due.is("pump " + p, x.passed(1, p), due[p]);
        }
        LowLand y = land(100, 0);
        y.pump(0, OUT, 100, 1, 0);
        y.weir(0, 1, 0, 50);
        y.turn(0, true);
        y.step(0);
        Due.is("behind the weir", y.passed(1, 0), 50);
        LowLand z = land(100);
        z.pump(0, OUT, 60, 1, 0);
        z.pump(0, OUT, 60, 1, 0);
        z.turn(1, true);
        z.step(0);
        Due.is("one that is off passes nothing", z.passed(1, 0), 0);
        Due.is("the next finds all", z.passed(1, 1), 60);
    }

    /** "H the LEVEL less the TIDE of the hour; above 0". */
    private static void sluiceAboveZero() {
        int[][] due = {{100, 9, 3}, {109, 9, 3}, {99, 9, 0}, {100, 10, 0}, {100, 11, 0}, {100, 500, 0}, {0, -1, 0},
            {50, -5, 30}};
        for (int[] row : due) {
            LowLand x = land(row[0]);
            x.sluice(0, 3);
            x.open(0, true);
            x.tide(0, row[1]);
            x.step(0);
            Due.is("over a tide of " + row[1], x.passed(2, 0), row[2]);
            Due.is("nothing comes in", x.told(0, 0), row[0] - row[2]);
        }
    }

    /** "WIDTH times H, or its WATER". */
    private static void sluiceOfWidthOrWater() {
        int[][] due = {{1, 10}, {9, 90}, {10, 100}, {11, 100}, {50, 100}};
        for (int[] row : due) {
            LowLand x = land(100);
            x.sluice(0, row[0]);
            x.open(0, true);
            x.step(0);
            Due.is("width " + row[0], x.passed(2, 0), row[1]);
            Due.is("out", x.told(0, 4), row[1]);
        }
        LowLand x = new LowLand();
        x.ditch(50, 500, 100000);
        x.sluice(0, 50);
        x.open(0, true);
        x.tide(0, -500);
        x.step(0);
        Due.is("the most: 50 times 3000 is above its water", x.passed(2, 0), 100000);
    }

    /** "Then SLUICES that are open", by numbers, behind the pumps. */
    private static void sluicesByNumbers() {
        LowLand x = land(100, 0);
        x.sluice(0, 4);
        x.sluice(0, 4);
        x.sluice(0, 4);
        x.pump(1, OUT, 20, 1, 0);
        x.pump(0, 1, 20, 1, 0);
        x.open(0, true);
        x.open(2, true);
        x.turn(0, true);
        x.turn(1, true);
        x.step(0);
        Due.is("behind the pumps", x.passed(2, 0), 32);
        Due.is("a shut one", x.passed(2, 1), 0);
        Due.is("by what is there then", x.passed(2, 2), 16);
        Due.is("pump 0 was ahead of pump 1", x.told(1, 0), 20);
    }

    /** "A PUMP that is on costs the PRICE of the hour of the STEP". */
    private static void costOfPumpsThatAreOn() {
        LowLand x = land(0);
        for (int p = 0; p < 4; p++) {
            x.pump(0, OUT, 1, 1, p == 3 ? 1 << 1 : 0);
        }
        x.price(0, 0);
        x.price(1, 100);
        x.price(2, 7);
        for (int p = 0; p < 4; p++) {
            x.turn(p, true);
        }
        int[] due = {0, 300, 321, 324};
        for (int spent : due) {
            x.step(0);
            Due.is("an empty ditch too, but none in its pauses", x.count(7), spent);
        }
        LowLand y = land(100);
        y.pump(0, OUT, 1, 1, 0);
        steps(y, 5);
        Due.is("off costs nothing", y.count(7), 0);
        y.turn(0, true);
        Due.is("nor does being turned", y.count(7), 0);
        y.price(5, 4);
        y.step(101);
        Due.is("nor a step refused", y.count(7), 0);
        y.step(0);
        Due.is("the price of the hour ahead of the step's end", y.count(7), 4);
    }

    /** "How far its LEVEL is below LOW or above HIGH (0: neither)". */
    private static void breachAtTheEdges() {
        LowLand x = land(55);
        int[][] due = {{5, 5, 0}, {4, 6, 0}, {6, 6, 1}, {6, 1000, 1}, {7, 1000, 2}, {-1000, 4, 1}, {4, 4, 1},
            {-1000, 3, 2}, {-1000, -1000, 1005}, {1000, 1000, 995}, {5, 1000, 0}, {-1000, 5, 0}};
        for (int[] row : due) {
            x.band(0, row[0], row[1]);
            Due.is("breach in " + row[0] + " to " + row[1], x.told(0, 2), row[2]);
            Due.is("alarms", x.count(6), row[2] > 0 ? 1 : 0);
        }
        LowLand y = new LowLand();
        y.ditch(1, 500, 500);
        y.ditch(1, 500, 501);
        y.ditch(50, -500, 0);
        Due.is("at the first HIGH", y.told(0, 2), 0);
        Due.is("above it", y.told(1, 2), 1);
        Due.is("the lowest level is above the first LOW", y.told(2, 2), 0);
        Due.is("alarms", y.count(6), 1);
    }

    /** "ALARM: a DITCH with a BREACH": none, one, all; those behind the step. */
    private static void alarmsOfAll() {
        LowLand x = land(0, 0, 0, 0, 0, 0);
        for (int d = 0; d <= 6; d++) {
            Due.is("alarms", x.count(6), d);
            Due.is("alarms behind a step", x.step(0), d);
            if (d < 6) {
                x.band(d, 1 + d, 1 + d);
            }
        }
        int[] due = {5, 5, 5, 5, 5, 5, 6};
        for (int alarms : due) {
            Due.is("levels of 1 and more", x.step(1), alarms);
            Due.is("alarms", x.count(6), alarms);
        }
        LowLand y = land(90);
        y.band(0, 0, 5);
        y.pump(0, OUT, 40, 1, 0);
        Due.is("an alarm ahead of it", y.count(6), 1);
        y.turn(0, true);
        Due.is("none behind it", y.step(0), 0);
    }

    /** "It can not come on in this HOUR OF THE DAY (PAUSES)": each hour's bit is that hour's. */
    private static void turnInEachHour() {
        for (int h = 0; h < 24; h++) {
            LowLand x = land(100);
            x.pump(0, OUT, 1, 1, 1 << h);
            x.pump(0, OUT, 1, 1, 16777215 ^ 1 << h);
            for (int i = 0; i < 24; i++) {
                Due.is("its one pause", x.turn(0, true), i == h ? STATE : 0);
                Due.is("its one hour", x.turn(1, true), i == h ? 0 : STATE);
                Due.is("which of them is on", x.count(8), 1);
                x.step(0);
                Due.is("pumped", x.passed(1, i == h ? 1 : 0), 1);
                x.turn(0, false);
                x.turn(1, false);
            }
        }
    }

    /** "It came on less than its LEAST RUN of hours ago and shall be off": one hour less, and that many. */
    private static void turnBehindEachLeastRun() {
        for (int least = 1; least <= 6; least++) {
            LowLand x = land(100);
            x.pump(0, OUT, 1, least, 0);
            steps(x, 22);
            Due.is("on", x.turn(0, true), 0);
            for (int i = 0; i < least; i++) {
                Due.is("hours ago: " + i, x.turn(0, false), STATE);
                Due.is("on still", x.turn(0, true), 1);
                x.step(0);
            }
            Due.is("the least run", x.turn(0, false), 1);
            Due.is("off", x.turn(0, false), 0);
            Due.is("on anew", x.turn(0, true), 0);
            Due.is("a run of its own", x.turn(0, false), STATE);
            Due.is("on", x.count(8), 1);
        }
    }

    /** "PUMPS that are on in their PAUSES are off for it, and stay off": from hour 23 to hour 0 and so on. */
    private static void pausesOverMidnight() {
        LowLand x = land(100);
        x.pump(0, OUT, 1, 6, 1);
        x.pump(0, OUT, 1, 6, 1 << 23);
        Due.is("hour 0 is a pause", x.turn(0, true), STATE);
        Due.is("hour 0", x.turn(1, true), 0);
        steps(x, 22);
        Due.is("hour 22", x.turn(0, true), 0);
        x.step(0);
        Due.is("both in hour 22", x.passed(1, 0) + x.passed(1, 1), 2);
        x.step(0);
        Due.is("one in hour 23", x.passed(1, 0) * 10 + x.passed(1, 1), 10);
        Due.is("on", x.count(8), 1);
        Due.is("up to the step it is on", x.turn(0, false), STATE);
        x.step(0);
        Due.is("none in hour 24", x.passed(1, 0) + x.passed(1, 1), 0);
        Due.is("on", x.count(8), 0);
        x.step(0);
        Due.is("they stay off", x.passed(1, 0) + x.passed(1, 1), 0);
        Due.is("off goes off, whatever its least run", x.turn(0, false) + x.turn(1, false), 0);
        LowLand y = land(100);
        y.pump(0, OUT, 1, 1, 1);
        y.pump(0, OUT, 1, 1, 1 << 1);
        y.turn(1, true);
        y.step(101);
        Due.is("a refused step takes none off", y.count(8), 1);
        y.step(0);
        y.step(-1);
        Due.is("a refused step takes none off", y.count(8), 1);
        y.step(0);
        Due.is("off", y.count(8), 0);
    }

    /** "How much passed in the latest STEP": ahead of the first 0; refused steps are none. */
    private static void passedInTheLatestStep() {
        LowLand x = land(100, 0);
        x.weir(0, 1, 0, 1);
        x.pump(0, OUT, 7, 1, 0);
        x.sluice(0, 1);
        x.turn(0, true);
        x.open(0, true);
        Due.is("ahead of the first", x.passed(0, 0) + x.passed(1, 0) + x.passed(2, 0), 0);
        x.step(0);
        int[] due = {10, 7, 8};
        x.step(101);
        x.turn(0, false);
        x.open(0, false);
        x.world();
        x.foretell(0, 0, 50);
        x.plan(6);
        x.judge(6, 1365, 2);
        x.follow(1);
        x.sheet(0, 0, 1);
        x.rain(0, 0, 0, 0);
        x.rain(0, 0, 1, 1);
        for (int sort = 0; sort < 3; sort++) {
            Due.is("in the latest step", x.passed(sort, 0), due[sort]);
        }
        x.rain(0, 0, 0, 2);
        int[] then = {6, 0, 0};
        for (int sort = 0; sort < 3; sort++) {
            Due.is("a step of a sheet", x.passed(sort, 0), then[sort]);
        }
    }

    /** "What came by RAIN so far, what went out by PUMPS and SLUICES so far": of a ditch, behind all steps. */
    private static void toldSoFar() {
        LowLand x = land(100, 100, 100);
        x.pump(0, 1, 5, 1, 0);
        x.pump(1, OUT, 3, 1, 0);
        x.sluice(2, 1);
        x.turn(0, true);
        x.turn(1, true);
        x.open(0, true);
        int[] sluiced = {11, 21, 31};
        for (int i = 0; i < 3; i++) {
            x.step(1);
            Due.is("rain", x.told(0, 3) + x.told(1, 3) + x.told(2, 3), 30 * (i + 1));
            Due.is("to another ditch", x.told(0, 4), 0);
            Due.is("by a pump", x.told(1, 4), 3 * (i + 1));
            Due.is("by a sluice", x.told(2, 4), sluiced[i]);
        }
        LowLand y = land(100);
        Due.is("none at first", y.told(0, 3) + y.told(0, 4), 0);
        y.step(100);
        y.ditch(1, 0, 0);
        Due.is("rain ahead of it is not its own", y.told(1, 3), 0);
        y.step(100);
        Due.is("rain", y.told(1, 3), 100);
        Due.is("rain", y.told(0, 3), 2000);
    }

    /** "HOUR 0; nothing": all calls work in it. */
    private static void landOfNothing() {
        LowLand x = new LowLand();
        Due.is("step", x.step(100), 0);
        Due.is("plan", x.plan(6), 0);
        Due.is("cost and breach", x.planned(6, 0) + x.planned(6, 1), 0);
        Due.is("well", x.judge(6, 0, 0), 1);
        Due.is("cost and breach", x.judge(6, 0, 1) + x.judge(6, 0, 2), 0);
        Due.is("follow", x.follow(6), 0);
        Due.is("hour", x.count(5), 1);
        Due.is("no water", x.count(9), 0);
        x.sheet(0, 0, 60);
        Due.is("rain", x.rain(0, 0, 36, 24), 0);
        Due.is("hour", x.count(5), 25);
        Due.is("tides", x.tides(0, 0, 36), 1);
    }
}
