/** Promises 1 to 13: what stands in the land, and its steps. */
final class LandTest {
    private static final int FAR = -1000000;
    private static final int LOWEST = Integer.MIN_VALUE, HIGHEST = Integer.MAX_VALUE;

    private LandTest() {
    }

    public static void main(String[] args) {
        aNewObject();
        ditch();
        band();
        told();
        weir();
        pump();
        sluice();
        turn();
        turnOfRunningPumps();
        turnOnInAPause();
        open();
        tide();
        price();
        step();
        stepOrder();
        stepOverWeirs();
        stepWithGreatNumbers();
        pausesInSteps();
        passed();
        aFullLand();
        Due.end();
    }

    private static LowLand withDitches(int n) {
        LowLand x = new LowLand();
        for (int d = 0; d < n; d++) {
            x.ditch(10, 0, 100);
        }
        return x;
    }

    private static void steps(LowLand x, int n) {
        for (int i = 0; i < n; i++) {
            x.step(0);
        }
    }

    /** Promise 1. */
    private static void aNewObject() {
        LowLand x = new LowLand();
        for (int what = 0; what < 10; what++) {
            Due.is("count", x.count(what), 0);
        }
        for (int h = 0; h < 24; h++) {
            Due.is("tide", x.tide(h, 0), 0);
            Due.is("price", x.price(h, 1), 1);
        }
        for (int k = 0; k < 4; k++) {
            Due.is("lay in nothing", x.lay(k, 0, 0), -11);
        }
        Due.is("told", x.told(0, 0), FAR);
        Due.is("step of nothing", x.step(5), 0);
        Due.is("objects share nothing", new LowLand().count(5), 0);
    }

    /** Promise 2. */
    private static void ditch() {
        LowLand x = new LowLand();
        int[][] bad = {{0, 0, 0}, {51, 0, 0}, {LOWEST, 0, 0}, {1, -501, 0}, {1, 501, 0}, {1, 0, -1}, {1, 0, 100001},
            {1, 0, HIGHEST}};
        for (int[] b : bad) {
            Due.is("bad ditch", x.ditch(b[0], b[1], b[2]), -1);
        }
        Due.is("none was made", x.count(0), 0);
        Due.is("ditch", x.ditch(1, -500, 0), 0);
        Due.is("ditch", x.ditch(50, 500, 100000), 1);
        Due.is("water", x.told(1, 0), 100000);
        Due.is("level", x.told(1, 1), 2500);
        Due.is("level of none", x.told(0, 1), -500);
        Due.is("LOW at first is below all beds", x.told(0, 2), 0);
        for (int d = 2; d < 6; d++) {
            Due.is("ditch", x.ditch(5, 5, 5), d);
        }
        Due.is("a seventh", x.ditch(5, 5, 5), -3);
        Due.is("BAD comes ahead of FULL", x.ditch(0, 5, 5), -1);
        Due.is("ditches", x.count(0), 6);
    }

    /** Promise 3. */
    private static void band() {
        LowLand x = withDitches(1);
        Due.is("band", x.band(0, -1000, 1000), 1);
        Due.is("one level", x.band(0, 10, 10), 1);
        Due.is("breach", x.told(0, 2), 0);
        Due.is("low", x.band(0, 12, 20), 1);
        Due.is("breach below", x.told(0, 2), 2);
        int[][] bad = {{0, -1001, 0}, {0, 0, 1001}, {0, 5, 4}, {-1, 0, 0}, {1, 0, 0}, {0, 1001, 1001}, {0, -1001, -1001},
            {LOWEST, 0, 0}};
        for (int[] b : bad) {
            Due.is("bad band", x.band(b[0], b[1], b[2]), -1);
        }
        Due.is("nothing changed", x.told(0, 2), 2);
        Due.is("high", x.band(0, -5, 7), 1);
        Due.is("breach above", x.told(0, 2), 3);
        Due.is("high", x.band(0, 1000, 1000), 1);
        Due.is("far below", x.told(0, 2), 990);
    }

    /** Promise 4. */
    private static void told() {
        LowLand x = new LowLand();
        x.ditch(7, -3, 20);
        x.ditch(2, 0, 50);
        Due.is("level is divided down", x.told(0, 1), -1);
        x.pump(0, 1, 5, 1, 0);
        x.pump(1, LowLand.NONE, 7, 1, 0);
        x.sluice(1, 1);
        x.tide(0, 20);
        x.turn(0, true);
        x.turn(1, true);
        x.open(0, true);
        x.step(3);
        Due.is("rain", x.told(0, 3), 21);
        Due.is("rain", x.told(1, 3), 6);
        Due.is("what a pump brings to another does not go out", x.told(0, 4), 0);
        // 50 + 6 + 5 - 7 = 54: a level of 27, 7 above the tide.
        Due.is("what a pump and a sluice took out", x.told(1, 4), 14);
        Due.is("water", x.told(0, 0), 36);
        Due.is("water", x.told(1, 0), 47);
        x.step(1);
        Due.is("rain so far", x.told(0, 3), 28);
        Due.is("nothing goes out of it", x.told(0, 4), 0);
        // 47 + 2 + 5 - 7 = 47: a level of 23, as far above the tide of 0.
        Due.is("out so far", x.told(1, 4), 14 + 7 + 23);
        Due.is("no such ditch", x.told(2, 0), FAR);
        Due.is("no such ditch", x.told(-1, 0), FAR);
        Due.is("no such what", x.told(0, 5), FAR);
        Due.is("no such what", x.told(0, -1), FAR);
        LowLand y = withDitches(1);
        Due.is("1000 at first", y.ditch(1, 500, 501), 1);
        Due.is("level", y.told(1, 1), 1001);
        Due.is("above the first HIGH", y.told(1, 2), 1);
        Due.is("weirs do not count as out", weirOut(), 0);
        toldOfPumpsOfBothKinds();
    }

    /** Promise 4: each pump of a ditch by where it goes to; what could not be pumped did not go out. */
    private static void toldOfPumpsOfBothKinds() {
        LowLand x = withDitches(2);
        x.pump(0, 1, 30, 1, 0);
        x.pump(0, LowLand.NONE, 40, 1, 0);
        x.pump(0, 1, 20, 1, 0);
        x.pump(0, LowLand.NONE, 50, 1, 0);
        for (int p = 0; p < 4; p++) {
            x.turn(p, true);
        }
        x.step(0);
        Due.is("out by pumps 1 and 3", x.told(0, 4), 40 + 10);
        Due.is("brought by pumps 0 and 2", x.told(1, 0), 150);
        Due.is("nothing out of there", x.told(1, 4), 0);
        x.judge(1, 3, 2);
        Due.is("a plan lets nothing out", x.told(0, 4), 50);
    }

    private static int weirOut() {
        LowLand x = new LowLand();
        x.ditch(10, 0, 100);
        x.ditch(10, 0, 0);
        x.weir(0, 1, 0, 5);
        x.step(0);
        Due.is("it passed", x.passed(0, 0), 50);
        return x.told(0, 4);
    }

    /** Promise 5. */
    private static void weir() {
        LowLand x = withDitches(2);
        int[][] bad = {{0, 0, 0, 1}, {0, 2, 0, 1}, {2, 0, 0, 1}, {-1, 0, 0, 1}, {0, -4, 0, 1}, {0, 1, 501, 1},
            {0, 1, -501, 1}, {0, 1, 0, 0}, {0, 1, 0, 51}, {0, HIGHEST, 0, 1}};
        for (int[] b : bad) {
            Due.is("bad weir", x.weir(b[0], b[1], b[2], b[3]), -1);
        }
        Due.is("none was made", x.count(1), 0);
        for (int w = 0; w < 8; w++) {
            Due.is("weir", x.weir(w % 2, 1 - w % 2, w == 0 ? -500 : 500, w == 1 ? 50 : 1), w);
        }
        Due.is("a ninth", x.weir(0, 1, 0, 1), -3);
        Due.is("BAD comes ahead of FULL", x.weir(0, 0, 0, 1), -1);
        Due.is("weirs", x.count(1), 8);
    }

    /** Promise 6. */
    private static void pump() {
        LowLand x = withDitches(2);
        int[][] bad = {{0, 0, 1, 1, 0}, {0, 2, 1, 1, 0}, {2, 0, 1, 1, 0}, {-4, 0, 1, 1, 0}, {0, -1, 1, 1, 0},
            {0, -3, 1, 1, 0}, {0, -5, 1, 1, 0}, {-4, -4, 1, 1, 0}, {0, 1, 0, 1, 0}, {0, 1, 1001, 1, 0},
            {0, 1, 1, 0, 0}, {0, 1, 1, 7, 0}, {0, 1, 1, 1, -1}, {0, 1, 1, 1, 16777216}};
        for (int[] b : bad) {
            Due.is("bad pump", x.pump(b[0], b[1], b[2], b[3], b[4]), -1);
        }
        Due.is("none was made", x.count(2), 0);
        Due.is("pump", x.pump(0, 1, 1, 1, 0), 0);
        Due.is("pump", x.pump(0, LowLand.NONE, 1000, 6, 16777215), 1);
        Due.is("pump", x.pump(1, LowLand.NONE, 1, 1, 0), 2);
        Due.is("pump", x.pump(1, 0, 1, 1, 0), 3);
        Due.is("a fifth", x.pump(1, 0, 1, 1, 0), -3);
        Due.is("BAD comes ahead of FULL", x.pump(1, 1, 1, 1, 0), -1);
        Due.is("pumps", x.count(2), 4);
        Due.is("off at first", x.count(8), 0);
    }

    /** Promise 7. */
    private static void sluice() {
        LowLand x = withDitches(2);
        int[][] bad = {{-1, 1}, {2, 1}, {0, 0}, {0, 51}, {LowLand.NONE, 1}, {0, LOWEST}};
        for (int[] b : bad) {
            Due.is("bad sluice", x.sluice(b[0], b[1]), -1);
        }
        Due.is("none was made", x.count(3), 0);
        Due.is("sluice", x.sluice(0, 1), 0);
        Due.is("sluice", x.sluice(1, 50), 1);
        Due.is("sluice", x.sluice(1, 50), 2);
        Due.is("sluice", x.sluice(1, 50), 3);
        Due.is("a fifth", x.sluice(1, 50), -3);
        Due.is("BAD comes ahead of FULL", x.sluice(1, 51), -1);
        Due.is("sluices", x.count(3), 4);
        Due.is("step", x.step(0), 0);
        Due.is("shut at first", x.passed(2, 1), 0);
    }

    /** Promise 8. */
    private static void turn() {
        LowLand x = withDitches(1);
        x.pump(0, LowLand.NONE, 1, 1, 1 << 1 | 1 << 23);
        Due.is("no such pump", x.turn(1, true), -1);
        Due.is("no such pump", x.turn(-1, false), -1);
        Due.is("off goes off", x.turn(0, false), 0);
        Due.is("off goes on", x.turn(0, true), 0);
        Due.is("it is on", x.count(8), 1);
        Due.is("on goes on", x.turn(0, true), 1);
        Due.is("no hour since", x.turn(0, false), -2);
        Due.is("still on", x.count(8), 1);
        x.step(0);
        Due.is("an hour since, in its pause", x.turn(0, false), 1);
        Due.is("its pause", x.turn(0, true), -2);
        Due.is("still off", x.count(8), 0);
        x.step(0);
        Due.is("behind its pause", x.turn(0, true), 0);
        steps(x, 21);
        Due.is("hour", x.count(5), 23);
        Due.is("the last hour of the day, but on still", x.turn(0, true), 1);
        Due.is("on still", x.turn(0, false), 1);
        Due.is("the last hour of the day", x.turn(0, true), -2);
        steps(x, 1);
        Due.is("the next day", x.turn(0, true), 0);
        x.step(0);
        Due.is("the next day's pause", x.turn(0, false), 1);
        Due.is("the next day's pause", x.turn(0, true), -2);
    }

    /** Promise 8: the least run counts from where the pump came on. */
    private static void turnOfRunningPumps() {
        LowLand x = withDitches(1);
        x.pump(0, LowLand.NONE, 1, 6, 0);
        x.pump(0, LowLand.NONE, 1, 3, 1 << 1);
        x.turn(0, true);
        x.turn(1, true);
        x.step(0);
        x.step(0);
        Due.is("forced off in its pause", x.turn(1, false), 0);
        Due.is("on again", x.turn(1, true), 0);
        Due.is("a run of its own", x.turn(1, false), -2);
        x.step(0);
        x.step(0);
        Due.is("two hours since", x.turn(1, false), -2);
        Due.is("on goes on: no new run", x.turn(0, true), 1);
        x.step(0);
        Due.is("three hours since", x.turn(1, false), 1);
        Due.is("five hours since", x.turn(0, false), -2);
        x.step(0);
        Due.is("six hours since", x.turn(0, false), 1);
    }

    /** Promise 8: a pump that is on still in its pause does not come on; the step takes it off all the same. */
    private static void turnOnInAPause() {
        LowLand x = withDitches(1);
        x.pump(0, LowLand.NONE, 10, 3, 1 << 1);
        Due.is("ahead of its pause", x.turn(0, true), 0);
        x.step(0);
        Due.is("on still", x.turn(0, true), 1);
        Due.is("on still", x.turn(0, true), 1);
        Due.is("in its least run, in its pause too", x.turn(0, false), -2);
        Due.is("it is on", x.count(8), 1);
        x.step(0);
        Due.is("off for the step", x.passed(1, 0), 0);
        Due.is("and off behind it", x.turn(0, true), 0);
        x.step(0);
        x.step(0);
        Due.is("two hours since it came on again", x.turn(0, false), -2);
        LowLand y = withDitches(1);
        y.pump(0, LowLand.NONE, 10, 2, 1 << 1);
        y.turn(0, true);
        y.step(0);
        Due.is("on still: no new run", y.turn(0, true), 1);
        Due.is("followed off in its pause", y.follow(1), 0);
        Due.is("it would come on", y.turn(0, true), -2);
    }

    /** Promise 9. */
    private static void open() {
        LowLand x = withDitches(1);
        x.sluice(0, 1);
        Due.is("no such sluice", x.open(1, true), -1);
        Due.is("no such sluice", x.open(-1, true), -1);
        Due.is("shut stays shut", x.open(0, false), 0);
        Due.is("shut goes open", x.open(0, true), 0);
        Due.is("open stays open", x.open(0, true), 1);
        x.step(0);
        Due.is("it lets out", x.passed(2, 0), 10);
        Due.is("open goes shut", x.open(0, false), 1);
        x.step(0);
        Due.is("it lets nothing out", x.passed(2, 0), 0);
    }

    /** Promise 10. */
    private static void tide() {
        LowLand x = new LowLand();
        Due.is("tide", x.tide(0, -500), 0);
        Due.is("tide", x.tide(0, 500), -500);
        Due.is("tide", x.tide(23, 7), 0);
        Due.is("bad hour", x.tide(24, 0), FAR);
        Due.is("bad hour", x.tide(-1, 0), FAR);
        Due.is("bad tide", x.tide(0, 501), FAR);
        Due.is("bad tide", x.tide(0, -501), FAR);
        Due.is("nothing changed", x.tide(0, 0), 500);
        Due.is("of its own", x.tide(23, 0), 7);
    }

    /** Promise 11. */
    private static void price() {
        LowLand x = new LowLand();
        Due.is("price", x.price(0, 0), 1);
        Due.is("price", x.price(0, 100), 0);
        Due.is("price", x.price(23, 7), 1);
        Due.is("bad hour", x.price(24, 0), -1);
        Due.is("bad hour", x.price(-1, 0), -1);
        Due.is("bad price", x.price(0, 101), -1);
        Due.is("bad price", x.price(0, -1), -1);
        Due.is("nothing changed", x.price(0, 0), 100);
        Due.is("of its own", x.price(23, 0), 7);
    }

    /** Promise 12. */
    private static void step() {
        LowLand x = withDitches(2);
        x.band(0, 0, 11);
        x.band(1, 12, 20);
        Due.is("bad rain", x.step(-1), -1);
        Due.is("bad rain", x.step(101), -1);
        Due.is("no hour went", x.count(5), 0);
        Due.is("one is too low", x.step(0), 1);
        Due.is("both in their bands", x.step(1) + x.step(1), 2);
        Due.is("hour", x.count(5), 3);
        Due.is("at its least", x.told(1, 1), 12);
        Due.is("the most rain", x.step(100), 2);
        Due.is("level", x.told(0, 1), 112);
        LowLand y = withDitches(1);
        y.pump(0, LowLand.NONE, 30, 1, 0);
        y.pump(0, LowLand.NONE, 90, 1, 0);
        y.price(0, 5);
        y.price(1, 9);
        y.turn(0, true);
        y.turn(1, true);
        y.step(0);
        Due.is("its rate", y.passed(1, 0), 30);
        Due.is("what is left", y.passed(1, 1), 70);
        Due.is("the price of two", y.count(7), 10);
        y.turn(0, false);
        y.step(0);
        Due.is("an empty ditch", y.passed(1, 1), 0);
        Due.is("costs all the same", y.count(7), 19);
        Due.is("never below 0", y.told(0, 0), 0);
        LowLand z = withDitches(1);
        z.sluice(0, 1);
        z.open(0, true);
        z.tide(0, 10);
        z.tide(1, 8);
        z.tide(2, -2);
        z.step(0);
        Due.is("level with the tide", z.passed(2, 0), 0);
        z.step(0);
        Due.is("above the tide", z.passed(2, 0), 2);
        z.step(0);
        Due.is("a low tide", z.passed(2, 0), 11);
    }

    /** Promise 12: rain, weirs by numbers, pumps by numbers, sluices by numbers, each by what is there then. */
    private static void stepOrder() {
        LowLand x = new LowLand();
        x.ditch(10, 0, 0);
        x.ditch(10, 0, 0);
        x.ditch(10, 0, 0);
        x.sluice(2, 50);
        x.sluice(2, 50);
        x.pump(1, 2, 40, 1, 0);
        x.weir(0, 1, 0, 50);
        x.open(0, true);
        x.open(1, true);
        x.turn(0, true);
        x.step(10);
        // Rain: 100 each, and all levels are 10: the weir passes nothing; the pump brings 2 to a level of 14.
        Due.is("weir", x.passed(0, 0), 0);
        Due.is("pump", x.passed(1, 0), 40);
        Due.is("sluice", x.passed(2, 0), 140);
        Due.is("sluice behind it", x.passed(2, 1), 0);
        x.step(0);
        // 100, 60, 0: levels 10, 6: the weir evens by 20 ahead of the pump.
        Due.is("weir", x.passed(0, 0), 20);
        Due.is("water", x.told(1, 0), 40);
        Due.is("sluice", x.passed(2, 0), 40);
        LowLand y = new LowLand();
        y.ditch(10, 0, 50);
        y.ditch(10, 0, 0);
        y.pump(0, 1, 1000, 1, 0);
        y.pump(1, LowLand.NONE, 30, 1, 0);
        y.turn(0, true);
        y.turn(1, true);
        y.step(0);
        Due.is("the second takes what the first brought", y.passed(1, 1), 30);
        Due.is("water", y.told(1, 0), 20);
    }

    /** Promise 12: the least of three, above the greater of two. */
    private static void stepOverWeirs() {
        Due.is("by its width", overWeir(10, 100, 10, 0, 5, 3), 15);
        Due.is("to the level evened", overWeir(10, 100, 10, 0, 5, 50), 25);
        Due.is("areas of their own, divided down", overWeir(3, 30, 4, 0, 5, 50), 8);
        Due.is("no lower than the other's level", overWeir(10, 100, 10, 80, 5, 50), 10);
        Due.is("level with the other", overWeir(10, 100, 10, 100, 5, 50), 0);
        Due.is("below the other", overWeir(10, 100, 10, 200, 5, 50), 0);
        Due.is("level with the crest", overWeir(10, 100, 10, 0, 10, 50), 0);
        Due.is("below the crest", overWeir(10, 100, 10, 0, 11, 50), 0);
        LowLand x = new LowLand();
        x.ditch(10, 400, 5);
        x.ditch(10, -400, 0);
        x.weir(0, 1, -500, 50);
        x.step(0);
        Due.is("no more than its water", x.passed(0, 0), 5);
    }

    private static int overWeir(int area, int water, int otherArea, int otherWater, int crest, int width) {
        LowLand x = new LowLand();
        x.ditch(area, 0, water);
        x.ditch(otherArea, 0, otherWater);
        x.weir(0, 1, crest, width);
        x.step(0);
        Due.is("what left", x.told(0, 0), water - x.passed(0, 0));
        Due.is("what came", x.told(1, 0), otherWater + x.passed(0, 0));
        return x.passed(0, 0);
    }

    /** Promise 12: levels times areas and widths beyond the range of int. */
    private static void stepWithGreatNumbers() {
        LowLand x = new LowLand();
        x.ditch(50, -500, 0);
        x.ditch(50, -500, 100000);
        x.ditch(1, 0, 0);
        for (int p = 0; p < 4; p++) {
            x.pump(p < 2 ? 0 : 1, 2, 1000, 1, 0);
            x.turn(p, true);
        }
        x.sheet(0, 2, 24);
        for (int i = 0; i < 24; i++) {
            x.lay(0, i, 100);
        }
        for (int i = 0; i < 430; i++) {
            x.rain(0, 2, 0, 24);
        }
        int hours = 430 * 24;
        Due.is("hours", x.count(5), hours);
        Due.is("a great level", x.told(2, 1), hours * 4100);
        Due.is("all water", x.count(9), 100000 + hours * 10100);
        Due.is("rain", x.told(1, 3), hours * 5000);
        Due.is("none went out", x.told(0, 4), 0);
        Due.is("cost", x.count(7), hours * 4);
        Due.is("breach", x.told(2, 2), hours * 4100 - 1000);
        for (int p = 0; p < 4; p++) {
            x.turn(p, false);
        }
        x.weir(2, 0, -500, 50);
        x.sluice(2, 50);
        x.open(0, true);
        long before = x.told(2, 0);
        // 50 times the height is beyond 2^31, as is the areas' product times it.
        long height = before - x.told(0, 1);
        x.step(0);
        Due.is("evened", x.passed(0, 0), 50 * height / 51);
        Due.is("let out", x.passed(2, 0), before - 50 * height / 51);
        Due.is("water", x.told(2, 0), 0);
        Due.is("out", x.told(2, 4), before - 50 * height / 51);
    }

    /** Promise 12: pumps that are on in their pauses are off for the step, and stay off. */
    private static void pausesInSteps() {
        LowLand x = withDitches(1);
        x.pump(0, LowLand.NONE, 10, 6, 1 << 1 | 1 << 3);
        x.turn(0, true);
        x.step(0);
        Due.is("on up to the step", x.count(8), 1);
        x.step(0);
        Due.is("off for it", x.passed(1, 0), 0);
        Due.is("no cost", x.count(7), 1);
        Due.is("it stays off", x.count(8), 0);
        x.step(0);
        Due.is("off behind it", x.passed(1, 0), 0);
        Due.is("water", x.told(0, 0), 90);
    }

    /** Promise 13. */
    private static void passed() {
        LowLand x = withDitches(2);
        x.weir(0, 1, 0, 1);
        x.pump(0, LowLand.NONE, 10, 1, 0);
        x.sluice(1, 2);
        x.turn(0, true);
        x.open(0, true);
        for (int sort = 0; sort < 3; sort++) {
            Due.is("ahead of all steps", x.passed(sort, 0), 0);
            Due.is("no such thing", x.passed(sort, 1), -1);
            Due.is("no such thing", x.passed(sort, -1), -1);
        }
        Due.is("no such sort", x.passed(3, 0), -1);
        Due.is("no such sort", x.passed(-1, 0), -1);
        x.step(0);
        Due.is("weir", x.passed(0, 0), 0);
        Due.is("pump", x.passed(1, 0), 10);
        Due.is("sluice", x.passed(2, 0), 20);
        x.weir(0, 1, 0, 1);
        Due.is("made behind the step", x.passed(0, 1), 0);
        x.turn(0, false);
        x.open(0, false);
        Due.is("the latest step", x.passed(1, 0), 10);
        Due.is("a plan is no step", x.planned(2, 1), 0);
        Due.is("the latest step", x.passed(2, 0), 20);
        x.step(0);
        Due.is("pump", x.passed(1, 0), 0);
        Due.is("sluice", x.passed(2, 0), 0);
        Due.is("weir", x.passed(0, 0), 1);
    }

    /** Promises 2 to 24: all that can stand in a land at once, through a day and a night. */
    private static void aFullLand() {
        LowLand x = new LowLand();
        for (int d = 0; d < 6; d++) {
            Due.is("ditch", x.ditch(d + 1, d, 600), d);
            Due.is("band", x.band(d, 0, 5), 1);
        }
        for (int w = 0; w < 8; w++) {
            Due.is("weir", x.weir(w % 6, (w + 1) % 6, 0, 1), w);
        }
        for (int p = 0; p < 4; p++) {
            Due.is("pump", x.pump(p, p < 2 ? p + 1 : LowLand.NONE, 5, 1, 0), p);
            Due.is("sluice", x.sluice(5 - p, 1), p);
            Due.is("open", x.open(p, true), 0);
            Due.is("turn", x.turn(p, true), 0);
        }
        for (int w = 0; w < 3; w++) {
            Due.is("world", x.world(), w);
            Due.is("foretell", x.foretell(w, 5, 100), 1);
        }
        int hours = 30, water = 3600, out = 0;
        for (int i = 0; i < hours; i++) {
            Due.is("the best breach is that of the plan", x.planned(6, 1), x.judge(6, x.plan(6), 2));
            Due.is("a step", x.step(1) >= 0 ? 1 : 0, 1);
            water += 21 + out;
            out = outOfAll(x);
            water -= out;
            Due.is("no water comes or goes but so", x.count(9), water);
        }
        int sum = 0;
        for (int d = 0; d < 6; d++) {
            sum += x.told(d, 0);
            Due.is("rain", x.told(d, 3), hours * (d + 1));
        }
        Due.is("all water", x.count(9), sum);
        Due.is("hour", x.count(5), hours);
    }

    private static int outOfAll(LowLand x) {
        int sum = 0;
        for (int d = 0; d < 6; d++) {
            sum += x.told(d, 4);
        }
        return sum;
    }
}
