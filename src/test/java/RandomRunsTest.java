import java.util.Random;

/** Runs of up to 512 calls, drawn from fixed seeds, against the Model. */
final class RandomRunsTest {
    private static final int[] EDGES = {Integer.MIN_VALUE, -1001, -1000, -501, -500, -6, -5, -4, -3, -2, -1, 0, 1, 2, 3,
        5, 6, 7, 23, 24, 25, 50, 51, 60, 61, 100, 101, 500, 501, 1000, 1001, 100000, 100001, 16777215, 16777216,
        Integer.MAX_VALUE};

    private final Random random;
    private final LowLand got = new LowLand();
    private final Model want = new Model();
    private String when = "";
    private boolean tame;
    private int calls;

    private RandomRunsTest(long seed) {
        random = new Random(seed);
    }

    public static void main(String[] args) {
        for (int seed = 0; seed < 2500; seed++) {
            new RandomRunsTest(seed).run(1 + seed % 2, seed % 5 == 0);
        }
        for (int seed = 0; seed < 60; seed++) {
            new RandomRunsTest(-1 - seed).run(6, true);
        }
        Due.end();
    }

    /** A number that is mostly as told, and at times at or beyond an edge. */
    private int some(int low, int high) {
        int draw = random.nextInt(tame ? 400 : 40);
        if (draw == 0) return EDGES[random.nextInt(EDGES.length)];
        if (draw == 1) return random.nextBoolean() ? low - 1 : high + 1;
        if (draw <= 5) return random.nextBoolean() ? low : high;
        return low + random.nextInt(high - low + 1);
    }

    /** A number of a thing that mostly is there. */
    private int one(int size) {
        return some(0, Math.max(0, size - 1));
    }

    /** A run with plans of up to so many hours; the audit's calls still fall within the 512 of an object. */
    private void run(int longest, boolean quiet) {
        tame = quiet;
        boolean wide = !quiet && random.nextBoolean();
        int most = 40 + random.nextInt(300);
        int built = 8 + random.nextInt(20);
        while (calls < most) {
            int sort = calls < built ? random.nextInt(9) : random.nextInt(40);
            if (sort < 9) {
                build(sort, wide);
            } else if (sort < 26) {
                act(sort, most);
            } else if (sort < 32) {
                look(sort);
            } else if (longest < 3 || random.nextInt(3) == 0) {
                foresee(longest);
            }
        }
        audit();
    }

    private void due(String name, long a, long b, int... numbers) {
        calls++;
        StringBuilder text = new StringBuilder(when).append(name).append('(');
        for (int i = 0; i < numbers.length; i++) {
            text.append(i > 0 ? ", " : "").append(numbers[i]);
        }
        Due.is(text.append(')').toString(), a, b);
    }

    private void build(int sort, boolean wide) {
        int ditches = want.ditches.size();
        int height = wide ? 500 : 10;
        int a = one(ditches), b = random.nextInt(4) == 0 ? LowLand.NONE : one(ditches);
        int c = some(-height, height), d = some(1, 50);
        switch (sort) {
            case 0: case 1: {
                int water = some(0, wide ? 100000 : 400);
                due("ditch", got.ditch(d, c, water), want.ditch(d, c, water), d, c, water);
                break;
            }
            case 2: {
                int low = some(-height, height), high = some(-height, 2 * height);
                due("band", got.band(a, low, high), want.band(a, low, high), a, low, high);
                break;
            }
            case 3: case 4:
                due("weir", got.weir(a, b, c, d), want.weir(a, b, c, d), a, b, c, d);
                break;
            case 5: {
                int rate = some(1, wide ? 1000 : 40), least = some(1, 6);
                int pauses = random.nextBoolean() ? some(0, 16777215) : random.nextInt(1 << 24) & random.nextInt(1 << 24);
                due("pump", got.pump(a, b, rate, least, pauses), want.pump(a, b, rate, least, pauses),
                    a, b, rate, least, pauses);
                break;
            }
            case 6:
                due("sluice", got.sluice(a, d), want.sluice(a, d), a, d);
                break;
            case 7: {
                int h = some(0, 23), v = some(-height, height);
                due("tide", got.tide(h, v), want.tide(h, v), h, v);
                break;
            }
            default: {
                int h = some(0, 23), v = some(0, 100);
                due("price", got.price(h, v), want.price(h, v), h, v);
            }
        }
    }

    private void act(int sort, int most) {
        boolean is = random.nextBoolean();
        int k = one(4), lane = one(3), f = one(60);
        switch (sort) {
            case 9: case 10: case 11: case 12: {
                int p = one(want.pumps.size());
                due("turn " + is, got.turn(p, is), want.turn(p, is), p);
                break;
            }
            case 13: case 14: {
                int s = one(want.sluices.size());
                due("open " + is, got.open(s, is), want.open(s, is), s);
                break;
            }
            case 15: case 16: case 17: case 18: {
                int rain = random.nextBoolean() ? some(0, 100) : random.nextInt(3);
                due("step", got.step(rain), want.step(rain), rain);
                break;
            }
            case 19: case 20: {
                int n = some(0, 60);
                due("sheet", got.sheet(k, lane, n), want.sheet(k, lane, n), k, lane, n);
                for (int i = 0; random.nextInt(30) > 0 && calls < most; i++) {
                    int v = some(0, 100);
                    due("lay", got.lay(k, i, v), want.lay(k, i, v), k, i, v);
                }
                break;
            }
            case 21: {
                int v = random.nextInt();
                due("lay", got.lay(k, f, v), want.lay(k, f, v), k, f, v);
                break;
            }
            case 22: case 23: {
                int n = some(0, 24);
                due("rain", got.rain(k, lane, f, n), want.rain(k, lane, f, n), k, lane, f, n);
                break;
            }
            default: {
                int from = one(40);
                due("tides", got.tides(k, lane, from), want.tides(k, lane, from), k, lane, from);
            }
        }
    }

    private void look(int sort) {
        if (sort < 28) {
            int d = one(want.ditches.size()), what = some(0, 4);
            due("told", got.told(d, what), want.told(d, what), d, what);
        } else if (sort < 30) {
            int which = some(0, 2), k = one(4);
            due("passed", got.passed(which, k), want.passed(which, k), which, k);
        } else {
            int what = some(0, 9);
            due("count", got.count(what), want.count(what), what);
        }
    }

    private void foresee(int longest) {
        int n = some(1, longest), what = some(0, 2), number = one(1 << 2 * longest);
        switch (random.nextInt(8)) {
            case 0:
                due("world", got.world(), want.world());
                break;
            case 1: case 2: {
                int w = one(want.worlds.size()), k = some(0, 5), rain = some(0, 100);
                due("foretell", got.foretell(w, k, rain), want.foretell(w, k, rain), w, k, rain);
                break;
            }
            case 3:
                due("plan", got.plan(n), want.plan(n), n);
                break;
            case 4:
                due("planned", got.planned(n, what), want.planned(n, what), n, what);
                break;
            case 5: case 6:
                due("judge", got.judge(n, number, what), want.judge(n, number, what), n, number, what);
                break;
            default:
                due("follow", got.follow(n), want.follow(n), n);
        }
    }

    /** All that the object tells, at the end of a run. */
    private void audit() {
        when = "at the end: ";
        for (int d = -1; d < 7; d++) {
            for (int what = -1; what < 6; what++) {
                due("told", got.told(d, what), want.told(d, what), d, what);
            }
        }
        for (int sort = -1; sort < 4; sort++) {
            for (int k = -1; k < 9; k++) {
                due("passed", got.passed(sort, k), want.passed(sort, k), sort, k);
            }
        }
        for (int what = -1; what < 11; what++) {
            due("count", got.count(what), want.count(what), what);
        }
        for (int h = -1; h < 25; h++) {
            due("tide", got.tide(h, 0), want.tide(h, 0), h);
            due("price", got.price(h, 1), want.price(h, 1), h);
        }
    }
}
