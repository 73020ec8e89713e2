import java.util.Random;

/** Lands with narrow bands, many pumps and worlds: their plans, hour after hour, against the Model. */
final class RandomPlansTest {
    private final Random random;
    private final LowLand got = new LowLand();
    private final Model want = new Model();
    private int ditches;

    private RandomPlansTest(long seed) {
        random = new Random(seed);
    }

    public static void main(String[] args) {
        for (int seed = 0; seed < 800; seed++) {
            RandomPlansTest test = new RandomPlansTest(seed);
            test.build();
            test.run(seed % 20 == 0 ? 6 : 4);
        }
        Due.end();
    }

    private int some(int low, int high) {
        return low + random.nextInt(high - low + 1);
    }

    private void build() {
        ditches = some(1, 4);
        for (int d = 0; d < ditches; d++) {
            int area = some(1, 8), bed = some(-6, 3), water = some(0, 80), low = some(-6, 3), high = low + some(0, 8);
            Due.is("ditch", got.ditch(area, bed, water), want.ditch(area, bed, water));
            Due.is("band", got.band(d, low, high), want.band(d, low, high));
        }
        for (int w = some(0, 3); w > 0; w--) {
            int from = some(0, ditches - 1), to = some(0, ditches - 1), crest = some(-5, 5), width = some(1, 5);
            Due.is("weir", got.weir(from, to, crest, width), want.weir(from, to, crest, width));
        }
        for (int p = some(1, 4); p > 0; p--) {
            int from = some(0, ditches - 1), to = some(0, 2) == 0 ? some(0, ditches - 1) : LowLand.NONE;
            int rate = some(1, 12), least = some(1, 4), pauses = random.nextInt() & random.nextInt() & 0xffffff;
            int bits = random.nextBoolean() ? 0 : pauses;
            Due.is("pump", got.pump(from, to, rate, least, bits), want.pump(from, to, rate, least, bits));
        }
        for (int s = some(0, 2); s > 0; s--) {
            int from = some(0, ditches - 1), width = some(1, 3);
            Due.is("sluice", got.sluice(from, width), want.sluice(from, width));
        }
        for (int h = 0; h < 24; h++) {
            int tide = some(-8, 12), price = some(0, 4) * some(0, 3);
            Due.is("tide", got.tide(h, tide), want.tide(h, tide));
            Due.is("price", got.price(h, price), want.price(h, price));
        }
    }

    /** Some 60 calls an hour: no object is used for more than 512. */
    private void run(int hours) {
        for (int i = some(0, 3) * some(0, 8); i > 0; i--) {
            Due.is("step", got.step(0), want.step(0));
        }
        for (int i = 0; i < 5; i++) {
            disturb();
            int n = some(1, hours);
            Due.is("plan", got.plan(n), want.plan(n));
            Due.is("cost", got.planned(n, 0), want.planned(n, 0));
            Due.is("breach", got.planned(n, 1), want.planned(n, 1));
            for (int j = 0; j < 6; j++) {
                int number = random.nextInt(1 << 2 * n), what = j % 3;
                Due.is("judge", got.judge(n, number, what), want.judge(n, number, what));
            }
            // Nothing of what was tried out may stay in the land.
            look();
            if (some(0, 2) > 0) {
                Due.is("follow", got.follow(n), want.follow(n));
            }
            int rain = some(0, 3);
            Due.is("step", got.step(rain), want.step(rain));
            look();
        }
    }

    private void disturb() {
        if (some(0, 2) == 0) {
            Due.is("world", got.world(), want.world());
        }
        int w = some(0, 2), k = some(0, 5), rain = some(0, 4);
        Due.is("foretell", got.foretell(w, k, rain), want.foretell(w, k, rain));
        int p = some(0, 3), s = some(0, 3);
        boolean on = random.nextBoolean(), open = some(0, 2) > 0;
        Due.is("turn", got.turn(p, on), want.turn(p, on));
        Due.is("open", got.open(s, open), want.open(s, open));
    }

    private void look() {
        for (int d = 0; d < ditches; d++) {
            for (int what = 0; what < 5; what++) {
                Due.is("told", got.told(d, what), want.told(d, what));
            }
        }
        for (int k = 0; k < 4; k++) {
            Due.is("passed", got.passed(k % 3, k), want.passed(k % 3, k));
        }
        for (int what = 5; what < 10; what++) {
            Due.is("count", got.count(what), want.count(what));
        }
    }
}
