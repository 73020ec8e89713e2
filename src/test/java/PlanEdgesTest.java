/**
 * The edges of worlds, plans and sheets' cells, sentence by sentence: one hour and six, no world and three, no pump and
 * four, least runs that just fit and just do not, ties of breach, cost and number, bits that wrap around.
 */
final class PlanEdgesTest {
    private static final int BAD = -1, STATE = -2, FULL = -3;
    private static final int LOWEST = Integer.MIN_VALUE, HIGHEST = Integer.MAX_VALUE;
    private static final int OUT = LowLand.NONE;

    private PlanEdgesTest() {
    }

    public static void main(String[] args) {
        worldsOfSixHours();
        hoursFromNowOn();
        withoutWorlds();
        plansOfThePumpsThatThereAre();
        bitsOfThePlan();
        noPumpOnInItsPauses();
        leastRunOrUpToTheEnd();
        asItIsNow();
        othersStayAsTheyAre();
        costOfPumps0And1();
        breachOfAll();
        breachBelowAndAbove();
        sluicesAndTidesInPlans();
        leastBreachThenCostThenNumber();
        thePlanIsWell();
        judgeWellOrNot();
        followsTheFirstHour();
        followWhateverTheyWere();
        lowestBitsOfCells();
        cellsOfANewRow();
        noCellsAtAll();
        Due.end();
    }

    /** A ditch of area 1 at a level of 10, above a HIGH of 0; n pumps of rate 1 out of it. */
    private static LowLand land(int n, int least, int pauses) {
        LowLand x = new LowLand();
        x.ditch(1, 0, 10);
        x.band(0, 0, 0);
        for (int p = 0; p < n; p++) {
            x.pump(0, OUT, 1, least, pauses);
        }
        return x;
    }

    private static void steps(LowLand x, int n) {
        for (int i = 0; i < n; i++) {
            x.step(0);
        }
    }

    /** "WORLDS (3): RAIN for each of 6 hours from now on": each hour's rain is that hour's, at first 0. */
    private static void worldsOfSixHours() {
        LowLand x = new LowLand();
        x.ditch(1, 0, 0);
        x.band(0, 0, 0);
        for (int w = 0; w < 3; w++) {
            Due.is("world", x.world(), w);
            Due.is("no rain at first", x.judge(6, 0, 2), 0);
        }
        Due.is("a fourth", x.world(), FULL);
        for (int w = 0; w < 3; w++) {
            for (int k = 0; k < 6; k++) {
                Due.is("foretell", x.foretell(w, k, 100), 1);
                for (int n = 1; n <= 6; n++) {
                    Due.is("rain of hour " + k, x.judge(n, 0, 2), 100 * Math.max(0, n - k));
                    Due.is("of the plan too", x.planned(n, 1), 100 * Math.max(0, n - k));
                }
                Due.is("foretold anew", x.foretell(w, k, 0), 1);
                Due.is("none", x.judge(6, 0, 2), 0);
            }
        }
        Due.is("no rain fell", x.told(0, 3), 0);
    }

    /** "It stays for hour k from whatever hour is now." */
    private static void hoursFromNowOn() {
        LowLand x = new LowLand();
        x.ditch(1, 0, 0);
        x.band(0, 0, 0);
        x.world();
        x.foretell(0, 0, 3);
        x.foretell(0, 5, 4);
        for (int i = 0; i < 30; i++) {
            Due.is("an hour", x.judge(1, 0, 2), 3);
            Due.is("five", x.judge(5, 0, 2), 15);
            Due.is("six", x.judge(6, 0, 2), 22);
            x.step(0);
        }
    }

    /** "Without WORLDS: one WORLD without RAIN"; "in each WORLD, summed". */
    private static void withoutWorlds() {
        LowLand x = land(1, 1, 0);
        Due.is("without worlds", x.judge(2, 0, 2), 20);
        Due.is("without worlds", x.planned(2, 1), 9 + 8);
        int[] due = {20, 40, 60};
        for (int breach : due) {
            x.world();
            Due.is("worlds without rain", x.judge(2, 0, 2), breach);
        }
        x.world();
        Due.is("no more than three", x.judge(2, 0, 2), 60);
        x.foretell(2, 0, 1);
        Due.is("rain in one of them", x.judge(2, 0, 2), 62);
        Due.is("the pump in all of them", x.planned(2, 1), 17 + 17 + 19);
    }

    /** "For each of the PUMPS 0 and 1 (those that there are)". */
    private static void plansOfThePumpsThatThereAre() {
        int[] on = {0, 1365, 4095, 4095, 4095};
        for (int pumps = 0; pumps <= 4; pumps++) {
            LowLand x = land(pumps, 1, 0);
            int two = Math.min(pumps, 2);
            int most = on[pumps];
            Due.is("all on", x.plan(6), most > 1365 ? 1 + 2 + 4 + 8 + 16 + 32 + 64 + 128 + 256 + 512 : most);
            for (int n = 1; n <= 6; n++) {
                for (int number = 0; number < 1 << 2 * n; number++) {
                    boolean is = (number & most) == number;
                    if (number < 20 || number > (1 << 2 * n) - 20 || number % 37 == 0) {
                        Due.is("plan " + number + " of " + pumps, x.judge(n, number, 0), is ? 1 : BAD);
                    }
                }
            }
            Due.is("followed", x.follow(1), two);
            Due.is("on", x.count(8), two);
        }
    }

    /** "Bit 2 k + p for PUMP p in hour k from now". */
    private static void bitsOfThePlan() {
        LowLand x = new LowLand();
        x.ditch(1, 0, 1000);
        x.band(0, 1000, 1000);
        x.pump(0, OUT, 1, 1, 0);
        x.pump(0, OUT, 100, 1, 0);
        for (int h = 0; h < 24; h++) {
            x.price(h, 1 + h);
        }
        steps(x, 21);
        for (int k = 0; k < 6; k++) {
            int price = 1 + (21 + k) % 24;
            Due.is("price of pump 0", x.judge(6, 1 << 2 * k, 1), price);
            Due.is("price of pump 1", x.judge(6, 1 << 2 * k + 1, 1), price);
            Due.is("by pump 0", x.judge(6, 1 << 2 * k, 2), 6 - k);
            Due.is("by pump 1", x.judge(6, 1 << 2 * k + 1, 2), 100 * (6 - k));
            Due.is("by both", x.judge(6, 3 << 2 * k, 2), 101 * (6 - k));
        }
    }

    /** "No PUMP is on in its PAUSES": in each hour, over midnight too. */
    private static void noPumpOnInItsPauses() {
        for (int h = 0; h < 24; h++) {
            LowLand x = land(2, 1, 1 << h);
            for (int now = 0; now < 24; now++) {
                for (int k = 0; k < 6; k++) {
                    boolean pauses = (now + k) % 24 == h;
                    Due.is("pump 0", x.judge(6, 1 << 2 * k, 0), pauses ? 0 : 1);
                    Due.is("pump 1", x.judge(k + 1, 2 << 2 * k, 0), pauses ? 0 : 1);
                }
                if (now % 6 == h % 6) {
                    Due.is("none", x.judge(6, 0, 0), 1);
                    Due.is("the plan pauses", x.plan(1), now == h ? 0 : 3);
                }
                x.step(0);
            }
        }
    }

    /** "Stays on for its LEAST RUN, or up to the end": each run of each length from each hour on. */
    private static void leastRunOrUpToTheEnd() {
        for (int least = 1; least <= 6; least++) {
            LowLand x = land(2, least, 0);
            for (int from = 0; from < 6; from++) {
                for (int run = 1; from + run <= 6; run++) {
                    int number = 0;
                    for (int k = from; k < from + run; k++) {
                        number |= 1 << 2 * k;
                    }
                    int due = run >= least || from + run == 6 ? 1 : 0;
                    Due.is("pump 0 from " + from + " for " + run, x.judge(6, number, 0), due);
                    Due.is("pump 1", x.judge(6, number << 1, 0), due);
                    Due.is("both", x.judge(6, number * 3, 0), due);
                }
            }
        }
        LowLand x = land(2, 2, 0);
        Due.is("two runs", x.judge(5, 1 | 4 | 64 | 256, 0), 1);
        Due.is("the second is too short", x.judge(6, 1 | 4 | 64, 0), 0);
        Due.is("the second is up to the end", x.judge(4, 1 | 4 | 64, 0), 1);
        Due.is("the first is too short", x.judge(6, 1 | 16 | 64, 0), 0);
        LowLand y = land(1, 3, 1 << 2);
        Due.is("a least run into a pause", y.judge(6, 1 | 4, 0), 0);
        Due.is("up to the end, ahead of the pause", y.judge(2, 1 | 4, 0), 1);
        Due.is("through the pause", y.judge(6, 1 | 4 | 16, 0), 0);
        Due.is("behind the pause", y.judge(6, 64 | 256 | 1024, 0), 1);
        Due.is("the plan for three hours can do nothing", y.plan(3), 0);
        Due.is("the plan for two can", y.plan(2), 1 | 4);
    }

    /** "Off in the hour ahead of that; ahead of the first: as it is now". */
    private static void asItIsNow() {
        for (int least = 1; least <= 6; least++) {
            LowLand x = land(2, least, 0);
            x.turn(0, true);
            for (int run = 0; run <= 6; run++) {
                int number = 0;
                for (int k = 0; k < run; k++) {
                    number |= 1 << 2 * k;
                }
                Due.is("a run from ahead may end", x.judge(6, number, 0), 1);
                int due = run == 0 || run >= least || run == 6 ? 1 : 0;
                Due.is("one of its own may not", x.judge(6, number << 1, 0), due);
            }
            Due.is("behind an hour off it comes on", x.judge(6, 4, 0), least == 1 ? 1 : 0);
            Due.is("behind an hour on and one off too", x.judge(6, 1 | 16, 0), least == 1 ? 1 : 0);
        }
        LowLand y = land(1, 4, 1 << 1);
        y.turn(0, true);
        y.step(0);
        Due.is("on now, in its pause", y.judge(1, 1, 0), 0);
        Due.is("it comes on behind it", y.judge(3, 4, 0), 0);
        Due.is("up to the end", y.judge(3, 4 | 16, 0), 1);
    }

    /** "Other PUMPS, SLUICES stay as they are (others in their PAUSES off for the hour)". */
    private static void othersStayAsTheyAre() {
        LowLand x = land(2, 1, 0);
        x.pump(0, OUT, 2, 6, 1 << 0 | 1 << 2);
        x.pump(0, OUT, 4, 6, 0);
        Due.is("off", x.judge(1, 0, 2), 10);
        steps(x, 1);
        x.turn(2, true);
        Due.is("on, off for the hour, on", x.judge(3, 0, 2), 8 + 8 + 6);
        x.turn(3, true);
        Due.is("both", x.judge(2, 0, 2), 4 + 0);
        Due.is("no matter of its cost", x.judge(2, 0, 1), 0);
        Due.is("they are on", x.count(8), 2);
        LowLand y = land(2, 1, 0);
        y.pump(0, OUT, 2, 1, 1 << 1);
        y.turn(2, true);
        y.step(0);
        Due.is("on now, off for its pause's hour, on again", y.judge(3, 0, 2), 8 + 6 + 4);
        y.turn(0, true);
        Due.is("pump 0 is as the plan tells", y.judge(3, 0, 2), 8 + 6 + 4);
    }

    /** "Its COST: the PRICES of PUMPS 0, 1 in it". */
    private static void costOfPumps0And1() {
        LowLand x = land(4, 1, 0);
        for (int p = 0; p < 4; p++) {
            x.turn(p, true);
        }
        for (int h = 0; h < 24; h++) {
            x.price(h, 100);
        }
        Due.is("none", x.judge(6, 0, 1), 0);
        Due.is("all", x.judge(6, 4095, 1), 1200);
        for (int h = 0; h < 24; h++) {
            x.price(h, 0);
        }
        Due.is("for nothing", x.judge(6, 4095, 1), 0);
        x.price(23, 5);
        x.price(0, 7);
        steps(x, 23);
        Due.is("over midnight", x.judge(6, 4095, 1), 24);
    }

    /** "Of all DITCHES behind each of its STEPS in each WORLD, summed". */
    private static void breachOfAll() {
        LowLand x = new LowLand();
        for (int d = 0; d < 6; d++) {
            x.ditch(1, d, 0);
            x.band(d, 10, 20);
        }
        Due.is("below LOW, all", x.judge(1, 0, 2), 10 + 9 + 8 + 7 + 6 + 5);
        Due.is("six hours", x.planned(6, 1), 6 * 45);
        x.world();
        x.foretell(0, 0, 10);
        Due.is("within", x.judge(6, 0, 2), 0);
        x.foretell(0, 1, 6);
        Due.is("the sixth is above HIGH from its second hour on", x.judge(6, 0, 2), 5);
        Due.is("it was within in the first", x.judge(1, 0, 2), 0);
        x.world();
        Due.is("the second world is dry", x.judge(6, 0, 2), 5 + 270);
        LowLand y = new LowLand();
        y.ditch(50, 500, 100000);
        y.band(0, -1000, -1000);
        for (int w = 0; w < 3; w++) {
            y.world();
            for (int k = 0; k < 6; k++) {
                y.foretell(w, k, 100);
            }
        }
        Due.is("great levels", y.planned(6, 1), 3 * (6 * 3500 + 2100));
    }

    /** "BREACH of a DITCH: how far its LEVEL is below LOW or above HIGH": a plan may pump too much. */
    private static void breachBelowAndAbove() {
        LowLand x = new LowLand();
        x.ditch(1, 0, 10);
        x.band(0, 8, 9);
        x.pump(0, OUT, 1, 1, 0);
        Due.is("above", x.judge(1, 0, 2), 1);
        Due.is("at HIGH", x.judge(1, 1, 2), 0);
        Due.is("at LOW", x.judge(2, 5, 2), 0);
        Due.is("below", x.judge(3, 21, 2), 1);
        Due.is("further below", x.judge(4, 85, 2), 3);
        Due.is("the plan stays within", x.plan(6), 1);
    }

    /** "SLUICES stay as they are", by the TIDE of each hour. */
    private static void sluicesAndTidesInPlans() {
        LowLand x = land(0, 1, 0);
        x.sluice(0, 1);
        for (int h = 0; h < 24; h++) {
            x.tide(h, 500);
        }
        x.tide(0, 7);
        x.tide(23, 9);
        steps(x, 22);
        Due.is("shut", x.judge(6, 0, 2), 60);
        x.open(0, true);
        Due.is("low tide in hour 23 and hour 0", x.judge(6, 0, 2), 10 + 9 + 7 + 7 + 7 + 7);
        Due.is("nothing let out", x.told(0, 4), 0);
    }

    /** "With the least BREACH that of the least COST, then of the least number". */
    private static void leastBreachThenCostThenNumber() {
        LowLand x = land(2, 1, 0);
        x.price(0, 100);
        x.price(1, 0);
        Due.is("the least breach whatever it costs", x.plan(2), 15);
        x.band(0, 0, 8);
        Due.is("the least breach", x.plan(2), 3);
        x.world();
        x.band(0, 0, 10);
        x.foretell(0, 1, 1);
        Due.is("the least cost of these", x.plan(2), 4);
        x.price(1, 100);
        Due.is("the least number of these", x.plan(2), 1);
        x.price(0, 0);
        x.price(1, 0);
        Due.is("the least number of these", x.plan(2), 1);
        x.foretell(0, 1, 0);
        Due.is("none", x.plan(6), 0);
        Due.is("none", x.planned(6, 0) + x.planned(6, 1), 0);
        LowLand y = land(2, 1, 0);
        y.band(0, 9, 9);
        Due.is("one of two, the least number", y.plan(1), 1);
        Due.is("as good", y.judge(1, 2, 1) * 10 + y.judge(1, 2, 2), 10);
    }

    /** "Of those that are WELL": a better one that is not is not THE PLAN. */
    private static void thePlanIsWell() {
        LowLand x = land(1, 2, 0);
        x.band(0, 9, 9);
        Due.is("an hour alone is not well", x.judge(2, 1, 0) * 10 + x.judge(2, 1, 2), 0);
        Due.is("the last hour alone is", x.plan(2), 4);
        Due.is("breach", x.planned(2, 1), 1);
        LowLand y = land(2, 6, 16777215);
        Due.is("all hours are pauses", y.plan(6), 0);
        y.price(0, 0);
        Due.is("breach", y.planned(6, 1), 60);
        LowLand z = land(1, 6, 0);
        z.band(0, 8, 9);
        // Six hours in one run are too many, the last two are not, and nor is the last one alone.
        Due.is("up to the end", z.plan(6), 1024 + 256);
        Due.is("breach", z.planned(6, 1), 4);
    }

    /** "WELL or not; PUMPS as it tells": on in its pauses it pumps, and it costs. */
    private static void judgeWellOrNot() {
        LowLand x = land(2, 6, 16777215);
        x.price(0, 9);
        Due.is("not well", x.judge(1, 3, 0), 0);
        Due.is("cost", x.judge(1, 3, 1), 18);
        Due.is("breach", x.judge(1, 3, 2), 8);
        Due.is("an hour alone of a least run of six", x.judge(2, 2, 1), 9);
        Due.is("breach", x.judge(2, 2, 2), 18);
        Due.is("nothing is turned", x.count(8), 0);
        Due.is("nothing is pumped", x.told(0, 0), 10);
    }

    /** "As THE PLAN tells for its first hour: how many are on of these". */
    private static void followsTheFirstHour() {
        LowLand x = land(4, 1, 0);
        x.turn(3, true);
        Due.is("both", x.follow(1), 2);
        Due.is("and the other one", x.count(8), 3);
        x.band(0, 10, 10);
        Due.is("none", x.follow(1), 0);
        Due.is("but the other one", x.count(8), 1);
        x.step(1);
        Due.is("the other one off", x.turn(3, false), 1);
        x.band(0, 9, 9);
        Due.is("one", x.follow(1), 1);
        Due.is("it is pump 0", x.turn(0, true) * 10 + x.turn(1, true), 10);
        LowLand y = land(2, 1, 0);
        y.band(0, 0, 10);
        y.world();
        y.foretell(0, 1, 2);
        y.price(0, 50);
        Due.is("in the second hour", y.plan(2), 12);
        Due.is("none in the first", y.follow(2), 0);
        Due.is("off", y.count(8), 0);
        Due.is("no hour goes", y.count(5), 0);
        y.step(0);
        Due.is("the second hour is foretold still, both hours are cheap", y.follow(2), 2);
        Due.is("of hour 0 from now none", y.follow(1), 0);
    }

    /** "Whatever they were": in their least run, in their pauses; a run begins where it came on. */
    private static void followWhateverTheyWere() {
        for (int least = 1; least <= 6; least++) {
            LowLand x = land(2, least, 0);
            x.turn(0, true);
            x.turn(1, true);
            x.band(0, 10, 10);
            Due.is("off in their least run", x.follow(1), 0);
            Due.is("off", x.count(8), 0);
            x.band(0, 0, 0);
            Due.is("on", x.follow(1), 2);
            for (int i = 0; i < least; i++) {
                Due.is("on since then", x.turn(0, false), STATE);
                Due.is("on still", x.follow(1), 2);
                x.step(1);
            }
            Due.is("its least run", x.turn(0, false), 1);
            Due.is("its least run", x.turn(1, false), 1);
        }
        LowLand y = land(1, 6, 1 << 1);
        y.turn(0, true);
        y.step(0);
        Due.is("on in its pause", y.count(8), 1);
        Due.is("off in its pause", y.follow(1), 0);
        Due.is("off", y.count(8), 0);
    }

    /** "CELL i becomes v (its lowest bits)": BYTES, SHORTS and INTS at their ends, and around them. */
    private static void lowestBitsOfCells() {
        int[][] bytes = {{0, 0}, {127, 127}, {128, -128}, {255, -1}, {256, 0}, {257, 1}, {383, 127}, {384, -128},
            {-1, -1}, {-128, -128}, {-129, 127}, {-256, 0}, {LOWEST, 0}, {HIGHEST, -1}, {65536 + 100, 100}};
        for (int[] row : bytes) {
            cell(0, row[0], row[1]);
        }
        int[][] shorts = {{0, 0}, {128, 128}, {256, 256}, {500, 500}, {-500, -500}, {65535, -1}, {65536, 0},
            {65537, 1}, {65536 + 500, 500}, {65536 - 500, -500}, {-65536, 0}, {-65535, 1}, {LOWEST, 0}, {HIGHEST, -1}};
        for (int[] row : shorts) {
            cell(1, row[0], row[1]);
        }
        int[][] ints = {{0, 0}, {128, 128}, {500, 500}, {-500, -500}, {-1, -1}};
        for (int[] row : ints) {
            cell(2, row[0], row[1]);
        }
        int[][] noTides = {{1, 32767}, {1, 32768}, {1, 501}, {1, -501}, {2, 256 * 256}, {2, 1 << 24}, {2, LOWEST},
            {2, HIGHEST}, {2, 65535}};
        for (int[] row : noTides) {
            LowLand x = new LowLand();
            x.sheet(0, row[0], 24);
            Due.is("lay", x.lay(0, 0, row[1]), 1);
            Due.is("no tide", x.tides(0, row[0], 0), -20);
            Due.is("no rain", x.rain(0, row[0], 0, 1), -20);
        }
    }

    private static void cell(int lane, int v, int due) {
        LowLand x = new LowLand();
        x.sheet(2, lane, 25);
        Due.is("lay", x.lay(2, 5, v), 1);
        Due.is("tides", x.tides(2, lane, 1), 1);
        for (int h = 0; h < 24; h++) {
            Due.is("cell of lane " + lane + ", laid " + v, x.tide(h, 0), h == 4 ? due : 0);
        }
        x.ditch(1, 0, 0);
        Due.is("rain", x.rain(2, lane, 5, 1), due < 0 || due > 100 ? -20 : 0);
        Due.is("rain so far", x.told(0, 3), due < 0 || due > 100 ? 0 : due);
    }

    /** "A SHEET is a new row of CELLS 0": whatever it was, in whatever lane; other sheets stay. */
    private static void cellsOfANewRow() {
        for (int lane = 0; lane < 3; lane++) {
            LowLand x = new LowLand();
            for (int k = 0; k < 4; k++) {
                x.sheet(k, (lane + k) % 3, 60);
                for (int i = 0; i < 60; i++) {
                    x.lay(k, i, 7 + k);
                }
            }
            Due.is("a new row", x.sheet(1, lane, 24), 1);
            Due.is("of its lane", x.tides(1, lane, 0), 1);
            for (int h = 0; h < 24; h++) {
                Due.is("of cells 0", x.tide(h, 0), 0);
            }
            Due.is("not of the old one", x.tides(1, (lane + 1) % 3, 0), -13);
            Due.is("no longer as long", x.lay(1, 24, 0), -12);
            Due.is("longer again", x.sheet(1, lane, 60), 1);
            Due.is("tides", x.tides(1, lane, 36), 1);
            for (int h = 0; h < 24; h++) {
                Due.is("of cells 0", x.tide(h, 0), 0);
            }
            for (int k = 0; k < 4; k++) {
                if (k != 1) {
                    Due.is("the others are as they were", x.tides(k, (lane + k) % 3, 36), 1);
                    Due.is("cell", x.tide(23, 0), 7 + k);
                }
            }
        }
    }

    /** "0 to 60 CELLS, or nothing": a row of none is not nothing. */
    private static void noCellsAtAll() {
        for (int lane = 0; lane < 3; lane++) {
            LowLand x = new LowLand();
            Due.is("nothing", x.lay(0, 0, 0), -11);
            Due.is("nothing", x.rain(0, lane, 0, 0), -11);
            Due.is("nothing", x.tides(0, lane, 0), -11);
            Due.is("a row of none", x.sheet(0, lane, 0), 1);
            Due.is("no cell", x.lay(0, 0, 0), -12);
            Due.is("no cell", x.lay(0, -1, 0), -12);
            Due.is("no cell", x.rain(0, lane, 0, 1), -12);
            Due.is("none asked for", x.rain(0, lane, 0, 0), 0);
            Due.is("another lane", x.rain(0, (lane + 1) % 3, 0, 0), -13);
            Due.is("no cell", x.tides(0, lane, 0), -12);
            Due.is("another lane", x.tides(0, (lane + 2) % 3, 0), -13);
            Due.is("no step was made", x.count(5), 0);
        }
    }
}
