/** Promises 14 to 19: worlds and plans. */
final class PlansTest {
    private static final int LOWEST = Integer.MIN_VALUE, HIGHEST = Integer.MAX_VALUE;

    private PlansTest() {
    }

    public static void main(String[] args) {
        world();
        foretell();
        plan();
        planOfLeastBreach();
        planOfLeastNumber();
        planOfFewPumps();
        planLeavesTheRest();
        planned();
        judge();
        judgeWhatIsWell();
        judgeCostAndBreach();
        follow();
        followWhateverTheyWere();
        Due.end();
    }

    /** A ditch at a level of 10 that shall be between 0 and high; pumps 0 and 1 take a level of 2 and of 1. */
    private static LowLand land(int high, int least, int pauses) {
        LowLand x = new LowLand();
        x.ditch(4, 0, 40);
        x.band(0, 0, high);
        x.pump(0, LowLand.NONE, 8, least, pauses);
        x.pump(0, LowLand.NONE, 4, least, pauses);
        return x;
    }

    /** Promise 14. */
    private static void world() {
        LowLand x = land(10, 1, 0);
        Due.is("world", x.world(), 0);
        Due.is("no rain at first", x.planned(6, 1), 0);
        Due.is("world", x.world(), 1);
        Due.is("world", x.world(), 2);
        Due.is("a fourth", x.world(), -3);
        Due.is("worlds", x.count(4), 3);
    }

    /** Promise 15. */
    private static void foretell() {
        LowLand x = land(10, 1, 0);
        Due.is("no such world", x.foretell(0, 0, 1), -1);
        x.world();
        int[][] bad = {{-1, 0, 1}, {1, 0, 1}, {0, -1, 1}, {0, 6, 1}, {0, 0, -1}, {0, 0, 101}, {LOWEST, HIGHEST, 0}};
        for (int[] b : bad) {
            Due.is("bad", x.foretell(b[0], b[1], b[2]), -1);
        }
        Due.is("nothing changed", x.judge(6, 0, 2), 0);
        Due.is("foretell", x.foretell(0, 5, 100), 1);
        Due.is("the last hour", x.judge(6, 0, 2), 100);
        Due.is("ahead of it", x.judge(5, 0, 2), 0);
        Due.is("foretell", x.foretell(0, 5, 0), 1);
        Due.is("none again", x.judge(6, 0, 2), 0);
        Due.is("foretell", x.foretell(0, 1, 3), 1);
        Due.is("behind two steps", x.judge(2, 0, 2), 3);
        x.step(0);
        Due.is("still in the second hour", x.judge(1, 0, 2), 0);
        Due.is("still in the second hour", x.judge(2, 0, 2), 3);
    }

    /** Promise 16: the least breach, and the least cost of these. */
    private static void plan() {
        LowLand x = land(10, 1, 0);
        Due.is("bad", x.plan(0), -1);
        Due.is("bad", x.plan(7), -1);
        Due.is("bad", x.plan(LOWEST), -1);
        Due.is("nothing to do", x.plan(6), 0);
        x.world();
        x.foretell(0, 2, 2);
        x.price(0, 3);
        x.price(1, 1);
        x.price(2, 2);
        Due.is("the cheapest hour ahead of the rain", x.plan(3), 4);
        Due.is("hours count from now", x.plan(2), 0);
        x.price(1, 9);
        Due.is("two are dearer than one", x.plan(3), 16);
        x.world();
        x.foretell(1, 0, 1);
        Due.is("all worlds: both are well by pump 0 at once", x.plan(3), 1);
        x.foretell(0, 2, 3);
        // World 1 wants a pump at once, world 0 two by the end, the second one in the cheap last hour.
        Due.is("all worlds", x.plan(3), 17);
        Due.is("as cheap, of a greater number", x.judge(3, 18, 1), 5);
        Due.is("as cheap, of a greater number", x.judge(3, 18, 2), 0);
    }

    /** Promise 16: else the least breach, whatever it costs; below LOW too. */
    private static void planOfLeastBreach() {
        LowLand x = land(4, 1, 0);
        x.price(0, 100);
        x.price(1, 100);
        Due.is("all on", x.plan(2), 15);
        Due.is("breach", x.planned(2, 1), 3);
        x.band(0, 9, 9);
        Due.is("one less at once", x.plan(2), 2);
        x.band(0, 10, 12);
        Due.is("not below", x.plan(2), 0);
        LowLand y = land(8, 3, 0);
        y.band(0, 8, 8);
        // A run of three hours takes 6: pump 0 in one hour alone is not well, but at the end it is.
        Due.is("the least run or up to the end", y.plan(1), 1);
        Due.is("pump 1 for two hours", y.plan(2), 10);
        Due.is("breach", y.planned(2, 1), 1);
    }

    /** Promise 16: of the same breach and cost the least number. */
    private static void planOfLeastNumber() {
        LowLand x = new LowLand();
        x.ditch(4, 0, 40);
        x.band(0, 0, 9);
        x.pump(0, LowLand.NONE, 4, 1, 0);
        x.pump(0, LowLand.NONE, 4, 1, 0);
        Due.is("pump 0 ahead of pump 1", x.plan(1), 1);
        for (int h = 0; h < 24; h++) {
            x.price(h, 0);
        }
        Due.is("no more than need be, though free", x.plan(6), 1);
        LowLand y = new LowLand();
        y.ditch(4, 0, 40);
        y.band(0, 0, 10);
        y.pump(0, LowLand.NONE, 4, 1, 0);
        y.pump(0, LowLand.NONE, 4, 1, 0);
        y.world();
        y.foretell(0, 5, 1);
        Due.is("the first hour's bits are the lowest", y.plan(6), 1);
    }

    /** Promise 16: plans tell of the pumps that there are. */
    private static void planOfFewPumps() {
        LowLand x = new LowLand();
        Due.is("no ditch", x.plan(6), 0);
        x.ditch(1, 0, 10);
        x.band(0, 0, 5);
        Due.is("no pump", x.plan(3), 0);
        Due.is("breach", x.planned(3, 1), 15);
        Due.is("the plan without pumps", x.judge(3, 0, 2), 15);
        Due.is("no such plan", x.judge(3, 1, 2), -1);
        x.pump(0, LowLand.NONE, 1, 1, 0);
        Due.is("one pump", x.plan(3), 21);
        Due.is("breach", x.planned(3, 1), 9);
        Due.is("no such plan", x.judge(3, 2, 0), -1);
        Due.is("no such plan", x.judge(3, 37, 0), -1);
        Due.is("a plan", x.judge(3, 21, 0), 1);
    }

    /** Promise 16: nothing is turned, no hour goes; other pumps and sluices work in it as they are. */
    private static void planLeavesTheRest() {
        LowLand x = new LowLand();
        x.ditch(1, 0, 100);
        x.band(0, 0, 100);
        x.pump(0, LowLand.NONE, 1, 1, 0);
        x.pump(0, LowLand.NONE, 2, 1, 0);
        x.pump(0, LowLand.NONE, 10, 1, 1 << 1);
        x.pump(0, LowLand.NONE, 20, 1, 0);
        x.sluice(0, 1);
        x.band(0, 0, 0);
        x.turn(0, true);
        x.turn(2, true);
        x.tide(2, 50);
        for (int h = 0; h < 6; h++) {
            x.tide(h, 500);
        }
        x.tide(3, 69);
        // Pump 2 takes 10 in hours 0, 2 and 3: it pauses in hour 1, but goes on behind that.
        Due.is("others as they are", x.judge(4, 0, 2), 90 + 90 + 80 + 70);
        x.open(0, true);
        Due.is("an open sluice at low tide", x.judge(4, 0, 2), 90 + 90 + 80 + 69);
        Due.is("the best", x.plan(4), 255);
        Due.is("cost without others", x.planned(4, 0), 8);
        Due.is("breach", x.planned(4, 1), 87 + 84 + 71 + 58);
        Due.is("on as they were", x.count(8), 2);
        Due.is("hour", x.count(5), 0);
        Due.is("water", x.told(0, 0), 100);
        Due.is("out", x.told(0, 4), 0);
        Due.is("cost", x.count(7), 0);
        Due.is("turn", x.turn(1, false), 0);
    }

    /** Promise 17. */
    private static void planned() {
        LowLand x = land(8, 1, 0);
        x.price(0, 100);
        x.price(1, 20);
        Due.is("cost", x.planned(2, 0), 100);
        Due.is("breach", x.planned(2, 1), 0);
        x.band(0, 0, 6);
        Due.is("cost", x.planned(2, 0), 220);
        Due.is("breach", x.planned(2, 1), 1);
        Due.is("bad hours", x.planned(0, 0), -1);
        Due.is("bad hours", x.planned(7, 0), -1);
        Due.is("bad what", x.planned(1, 2), -1);
        Due.is("bad what", x.planned(1, -1), -1);
        LowLand y = new LowLand();
        y.ditch(1, -500, 0);
        y.ditch(50, 500, 100000);
        y.band(0, 1000, 1000);
        for (int w = 0; w < 3; w++) {
            y.world();
        }
        Due.is("of all ditches, steps and worlds", y.planned(6, 1), 18 * (1500 + 1500));
    }

    /** Promise 18: what there is to judge. */
    private static void judge() {
        LowLand x = land(8, 1, 0);
        Due.is("bad hours", x.judge(0, 0, 0), -1);
        Due.is("bad hours", x.judge(7, 0, 0), -1);
        Due.is("bad number", x.judge(1, 4, 0), -1);
        Due.is("bad number", x.judge(6, 4096, 0), -1);
        Due.is("bad number", x.judge(6, -1, 0), -1);
        Due.is("bad number", x.judge(6, HIGHEST, 0), -1);
        Due.is("bad number", x.judge(6, LOWEST, 0), -1);
        Due.is("bad what", x.judge(1, 0, 3), -1);
        Due.is("bad what", x.judge(1, 0, -1), -1);
        Due.is("the greatest number", x.judge(6, 4095, 0), 1);
        Due.is("its cost", x.judge(6, 4095, 1), 12);
        Due.is("the greatest of an hour", x.judge(1, 3, 0), 1);
    }

    /** Promise 18: pauses, and least runs. */
    private static void judgeWhatIsWell() {
        LowLand x = land(8, 3, 1 << 4);
        Due.is("all off", x.judge(6, 0, 0), 1);
        Due.is("an hour", x.judge(6, 1, 0), 0);
        Due.is("two hours", x.judge(6, 1 | 4, 0), 0);
        Due.is("three hours", x.judge(6, 1 | 4 | 16, 0), 1);
        Due.is("four hours", x.judge(6, 1 | 4 | 16 | 64, 0), 1);
        Due.is("on in the pause", x.judge(6, 1 | 4 | 16 | 64 | 256, 0), 0);
        Due.is("up to the end", x.judge(6, 1024, 0), 1);
        Due.is("up to the pause", x.judge(6, 64, 0), 0);
        Due.is("up to the end of fewer", x.judge(4, 64, 0), 1);
        Due.is("one well, one not", x.judge(4, 64 | 2, 0), 0);
        x.turn(0, true);
        Due.is("a run from ahead ends", x.judge(6, 0, 0), 1);
        Due.is("a run from ahead ends", x.judge(6, 1, 0), 1);
        Due.is("a run of its own does not", x.judge(6, 4, 0), 0);
        Due.is("nor pump 1", x.judge(6, 2, 0), 0);
        x.step(0);
        x.step(0);
        x.step(0);
        Due.is("hours are from now on", x.judge(2, 5, 0), 0);
        x.step(0);
        Due.is("on now, and in its pause", x.judge(2, 1, 0), 0);
        Due.is("it came on behind that", x.judge(3, 4, 0), 0);
        Due.is("it came on behind that", x.judge(2, 4, 0), 1);
    }

    /** Promise 18: well or not, the pumps are on as the plan tells. */
    private static void judgeCostAndBreach() {
        LowLand x = land(8, 3, 1);
        x.price(0, 10);
        x.price(1, 3);
        Due.is("not well", x.judge(2, 3, 0), 0);
        Due.is("its cost", x.judge(2, 3, 1), 20);
        Due.is("its breach", x.judge(2, 3, 2), 0);
        Due.is("not well", x.judge(3, 4, 0), 0);
        Due.is("its cost", x.judge(3, 4, 1), 3);
        Due.is("its breach", x.judge(3, 4, 2), 2);
        Due.is("breach of none", x.judge(3, 0, 2), 6);
        for (int i = 0; i < 23; i++) {
            x.step(0);
        }
        Due.is("over midnight", x.judge(2, 4, 1), 10);
        Due.is("over midnight", x.judge(2, 4, 0), 0);
        Due.is("over midnight", x.judge(2, 5, 1), 11);
    }

    /** Promise 19. */
    private static void follow() {
        LowLand x = land(8, 1, 0);
        Due.is("bad", x.follow(0), -1);
        Due.is("bad", x.follow(7), -1);
        x.price(0, 5);
        Due.is("plan", x.plan(2), 1);
        Due.is("follow", x.follow(2), 1);
        Due.is("on", x.count(8), 1);
        Due.is("which", x.turn(0, true), 1);
        Due.is("no step", x.count(5), 0);
        x.step(0);
        Due.is("all is well now", x.follow(1), 0);
        Due.is("off", x.count(8), 0);
        x.band(0, 0, 0);
        Due.is("both", x.follow(6), 2);
        LowLand y = new LowLand();
        Due.is("no pumps", y.follow(3), 0);
        y.ditch(1, 0, 9);
        y.band(0, 0, 0);
        y.pump(0, LowLand.NONE, 1, 1, 0);
        Due.is("one pump", y.follow(3), 1);
        Due.is("on", y.count(8), 1);
    }

    /** Promise 19: least runs do not bind it; a pump that was on does not come on; others stay. */
    private static void followWhateverTheyWere() {
        LowLand x = land(10, 4, 0);
        x.pump(0, LowLand.NONE, 1, 1, 0);
        x.turn(0, true);
        x.turn(2, true);
        Due.is("in its least run", x.turn(0, false), -2);
        Due.is("follow", x.follow(1), 0);
        Due.is("the other one is on", x.count(8), 1);
        Due.is("off", x.turn(0, false), 0);
        x.band(0, 0, 8);
        Due.is("it comes on", x.follow(1), 1);
        x.step(0);
        x.band(0, 0, 4);
        Due.is("it goes on, and the other comes on", x.follow(1), 2);
        x.step(0);
        x.step(0);
        Due.is("three hours since", x.turn(0, false), -2);
        x.step(0);
        Due.is("four hours since", x.turn(0, false), 1);
        Due.is("three hours since", x.turn(1, false), -2);
    }
}
