import java.util.ArrayList;
import java.util.List;

/** The document, written again in its slowest form: every plan is tried on a copy of the land. */
final class Model {
    static final int BAD = -1, STATE = -2, FULL = -3, NONE = -4, FAR = -1000000;

    static final class Ditch {
        long area, bed, water, low = -1000, high = 1000, rained, out;

        long level() {
            return bed + Math.floorDiv(water, area);
        }

        long breach() {
            return Math.max(0, Math.max(low - level(), level() - high));
        }
    }

    static final class Weir {
        Ditch from, to;
        long crest, width, passed;
    }

    static final class Pump {
        Ditch from, to;
        long rate, passed;
        int least, pauses, since;
        boolean on;

        boolean pausesIn(int hour) {
            return (pauses & 1 << hour % 24) != 0;
        }
    }

    static final class Sluice {
        Ditch from;
        long width, passed;
        boolean open;
    }

    static final class Sheet {
        byte[] bytes;
        short[] shorts;
        int[] ints;

        int length() {
            return bytes != null ? bytes.length : shorts != null ? shorts.length : ints.length;
        }

        int get(int i) {
            return bytes != null ? bytes[i] : shorts != null ? shorts[i] : ints[i];
        }

        int lane() {
            return bytes != null ? 0 : shorts != null ? 1 : 2;
        }
    }

    final List<Ditch> ditches = new ArrayList<>();
    final List<Weir> weirs = new ArrayList<>();
    final List<Pump> pumps = new ArrayList<>();
    final List<Sluice> sluices = new ArrayList<>();
    final List<int[]> worlds = new ArrayList<>();
    final Sheet[] sheets = new Sheet[4];
    int[] tides = new int[24];
    int[] prices = new int[24];
    int hour;
    long spent;

    Model() {
        java.util.Arrays.fill(prices, 1);
    }

    private static boolean in(long v, long low, long high) {
        return low <= v && v <= high;
    }

    private static boolean at(int k, List<?> row) {
        return in(k, 0, row.size() - 1);
    }

    /** A copy of all that a step moves. */
    private Model copy() {
        Model c = new Model();
        for (Ditch d : ditches) {
            Ditch e = new Ditch();
            e.area = d.area;
            e.bed = d.bed;
            e.water = d.water;
            e.low = d.low;
            e.high = d.high;
            c.ditches.add(e);
        }
        for (Weir w : weirs) {
            Weir e = new Weir();
            e.from = c.ditches.get(ditches.indexOf(w.from));
            e.to = c.ditches.get(ditches.indexOf(w.to));
            e.crest = w.crest;
            e.width = w.width;
            c.weirs.add(e);
        }
        for (Pump p : pumps) {
            Pump e = new Pump();
            e.from = c.ditches.get(ditches.indexOf(p.from));
            e.to = p.to == null ? null : c.ditches.get(ditches.indexOf(p.to));
            e.rate = p.rate;
            e.on = p.on;
            c.pumps.add(e);
        }
        for (Sluice s : sluices) {
            Sluice e = new Sluice();
            e.from = c.ditches.get(ditches.indexOf(s.from));
            e.width = s.width;
            e.open = s.open;
            c.sluices.add(e);
        }
        c.tides = tides;
        c.prices = prices;
        c.hour = hour;
        return c;
    }

    int ditch(int area, int bed, int water) {
        if (!in(area, 1, 50) || !in(bed, -500, 500) || !in(water, 0, 100000)) return BAD;
        if (ditches.size() == 6) return FULL;
        Ditch d = new Ditch();
        d.area = area;
        d.bed = bed;
        d.water = water;
        ditches.add(d);
        return ditches.size() - 1;
    }

    int band(int d, int low, int high) {
        if (!at(d, ditches) || !in(low, -1000, 1000) || !in(high, -1000, 1000) || low > high) return BAD;
        ditches.get(d).low = low;
        ditches.get(d).high = high;
        return 1;
    }

    int told(int d, int what) {
        if (!at(d, ditches) || !in(what, 0, 4)) return FAR;
        Ditch it = ditches.get(d);
        return (int) new long[] {it.water, it.level(), it.breach(), it.rained, it.out}[what];
    }

    int weir(int from, int to, int crest, int width) {
        if (!at(from, ditches) || !at(to, ditches) || from == to) return BAD;
        if (!in(crest, -500, 500) || !in(width, 1, 50)) return BAD;
        if (weirs.size() == 8) return FULL;
        Weir w = new Weir();
        w.from = ditches.get(from);
        w.to = ditches.get(to);
        w.crest = crest;
        w.width = width;
        weirs.add(w);
        return weirs.size() - 1;
    }

    int pump(int from, int to, int rate, int least, int pauses) {
        if (!at(from, ditches) || to != NONE && !at(to, ditches) || from == to) return BAD;
        if (!in(rate, 1, 1000) || !in(least, 1, 6) || !in(pauses, 0, 16777215)) return BAD;
        if (pumps.size() == 4) return FULL;
        Pump p = new Pump();
        p.from = ditches.get(from);
        p.to = to == NONE ? null : ditches.get(to);
        p.rate = rate;
        p.least = least;
        p.pauses = pauses;
        pumps.add(p);
        return pumps.size() - 1;
    }

    int sluice(int from, int width) {
        if (!at(from, ditches) || !in(width, 1, 50)) return BAD;
        if (sluices.size() == 4) return FULL;
        Sluice s = new Sluice();
        s.from = ditches.get(from);
        s.width = width;
        sluices.add(s);
        return sluices.size() - 1;
    }

    int turn(int p, boolean on) {
        if (!at(p, pumps)) return BAD;
        Pump it = pumps.get(p);
        if (on && !it.on && it.pausesIn(hour)) return STATE;
        if (!on && it.on && hour < it.since + it.least) return STATE;
        int was = it.on ? 1 : 0;
        set(it, on);
        return was;
    }

    private void set(Pump it, boolean on) {
        if (on && !it.on) it.since = hour;
        it.on = on;
    }

    int open(int s, boolean is) {
        if (!at(s, sluices)) return BAD;
        int was = sluices.get(s).open ? 1 : 0;
        sluices.get(s).open = is;
        return was;
    }

    int tide(int h, int v) {
        if (!in(h, 0, 23) || !in(v, -500, 500)) return FAR;
        int was = tides[h];
        tides[h] = v;
        return was;
    }

    int price(int h, int v) {
        if (!in(h, 0, 23) || !in(v, 0, 100)) return BAD;
        int was = prices[h];
        prices[h] = v;
        return was;
    }

    int step(int rain) {
        if (!in(rain, 0, 100)) return BAD;
        for (Pump p : pumps) if (p.pausesIn(hour)) p.on = false;
        run(rain);
        return alarms();
    }

    /** A step with the pumps as they are. */
    private void run(int rain) {
        for (Ditch d : ditches) {
            d.water += rain * d.area;
            d.rained += rain * d.area;
        }
        for (Weir w : weirs) {
            long h = w.from.level() - Math.max(w.crest, w.to.level());
            long q = 0;
            if (h > 0) {
                q = Math.min(w.width * h, w.from.water);
                q = Math.min(q, Math.floorDiv(w.from.area * w.to.area * h, w.from.area + w.to.area));
            }
            w.from.water -= q;
            w.to.water += q;
            w.passed = q;
        }
        for (Pump p : pumps) {
            p.passed = p.on ? Math.min(p.rate, p.from.water) : 0;
            p.from.water -= p.passed;
            if (p.to == null) p.from.out += p.passed;
            else p.to.water += p.passed;
            if (p.on) spent += prices[hour % 24];
        }
        for (Sluice s : sluices) {
            long h = s.from.level() - tides[hour % 24];
            s.passed = s.open && h > 0 ? Math.min(s.width * h, s.from.water) : 0;
            s.from.water -= s.passed;
            s.from.out += s.passed;
        }
        hour++;
    }

    private int alarms() {
        int sum = 0;
        for (Ditch d : ditches) if (d.breach() != 0) sum++;
        return sum;
    }

    int passed(int sort, int k) {
        if (sort == 0 && at(k, weirs)) return (int) weirs.get(k).passed;
        if (sort == 1 && at(k, pumps)) return (int) pumps.get(k).passed;
        if (sort == 2 && at(k, sluices)) return (int) sluices.get(k).passed;
        return BAD;
    }

    int world() {
        if (worlds.size() == 3) return FULL;
        worlds.add(new int[6]);
        return worlds.size() - 1;
    }

    int foretell(int w, int k, int rain) {
        if (!at(w, worlds) || !in(k, 0, 5) || !in(rain, 0, 100)) return BAD;
        worlds.get(w)[k] = rain;
        return 1;
    }

    private boolean isOn(int number, int k, int p) {
        return (number & 1 << 2 * k + p) != 0;
    }

    private boolean well(int n, int number) {
        for (int p = 0; p < Math.min(2, pumps.size()); p++) {
            Pump it = pumps.get(p);
            boolean before = it.on;
            for (int k = 0; k < n; k++) {
                boolean on = isOn(number, k, p);
                if (on && it.pausesIn(hour + k)) return false;
                if (on && !before) {
                    for (int j = k; j < Math.min(n, k + it.least); j++) if (!isOn(number, j, p)) return false;
                }
                before = on;
            }
        }
        return true;
    }

    private long cost(int n, int number) {
        long sum = 0;
        for (int k = 0; k < n; k++) {
            for (int p = 0; p < 2; p++) if (isOn(number, k, p)) sum += prices[(hour + k) % 24];
        }
        return sum;
    }

    private long breach(int n, int number) {
        long sum = 0;
        List<int[]> tried = worlds.isEmpty() ? List.of(new int[6]) : worlds;
        for (int[] world : tried) {
            Model c = copy();
            for (int k = 0; k < n; k++) {
                for (int p = 0; p < pumps.size(); p++) {
                    Pump it = pumps.get(p);
                    c.pumps.get(p).on = p < 2 ? isOn(number, k, p) : it.on && !it.pausesIn(hour + k);
                }
                c.run(world[k]);
                for (Ditch d : c.ditches) sum += d.breach();
            }
        }
        return sum;
    }

    private boolean isPlan(int n, int number) {
        if (number < 0 || number >= 1 << 2 * n) return false;
        for (int k = 0; k < n; k++) {
            for (int p = pumps.size(); p < 2; p++) if (isOn(number, k, p)) return false;
        }
        return true;
    }

    int plan(int n) {
        if (!in(n, 1, 6)) return BAD;
        int best = -1;
        long bestBreach = 0, bestCost = 0;
        for (int number = 0; number < 1 << 2 * n; number++) {
            if (!isPlan(n, number) || !well(n, number)) continue;
            long breach = breach(n, number), cost = cost(n, number);
            if (best < 0 || breach < bestBreach || breach == bestBreach && cost < bestCost) {
                best = number;
                bestBreach = breach;
                bestCost = cost;
            }
        }
        return best;
    }

    long planned(int n, int what) {
        if (!in(n, 1, 6) || !in(what, 0, 1)) return BAD;
        return judge(n, plan(n), what + 1);
    }

    long judge(int n, int number, int what) {
        if (!in(n, 1, 6) || !in(what, 0, 2) || !isPlan(n, number)) return BAD;
        return what == 0 ? well(n, number) ? 1 : 0 : what == 1 ? cost(n, number) : breach(n, number);
    }

    int follow(int n) {
        if (!in(n, 1, 6)) return BAD;
        int number = plan(n), on = 0;
        for (int p = 0; p < Math.min(2, pumps.size()); p++) {
            set(pumps.get(p), isOn(number, 0, p));
            if (isOn(number, 0, p)) on++;
        }
        return on;
    }

    int sheet(int k, int lane, int n) {
        if (!in(k, 0, 3) || !in(lane, 0, 2) || n > 60) return BAD;
        if (n < 0) return -14;
        Sheet s = new Sheet();
        if (lane == 0) s.bytes = new byte[n];
        if (lane == 1) s.shorts = new short[n];
        if (lane == 2) s.ints = new int[n];
        sheets[k] = s;
        return 1;
    }

    int lay(int k, int i, int v) {
        if (!in(k, 0, 3)) return BAD;
        Sheet s = sheets[k];
        if (s == null) return -11;
        if (!in(i, 0, s.length() - 1)) return -12;
        if (s.bytes != null) s.bytes[i] = (byte) v;
        if (s.shorts != null) s.shorts[i] = (short) v;
        if (s.ints != null) s.ints[i] = v;
        return 1;
    }

    int rain(int k, int lane, int f, int n) {
        if (!in(k, 0, 3) || !in(lane, 0, 2) || !in(n, 0, 24)) return BAD;
        Sheet s = sheets[k];
        if (s == null) return -11;
        if (s.lane() != lane) return -13;
        int alarms = 0;
        for (int i = 0; i < n; i++) {
            if (!in((long) f + i, 0, s.length() - 1)) return -12;
            if (!in(s.get(f + i), 0, 100)) return -20 - i;
            alarms = step(s.get(f + i));
        }
        return alarms;
    }

    int tides(int k, int lane, int f) {
        if (!in(k, 0, 3) || !in(lane, 0, 2)) return BAD;
        Sheet s = sheets[k];
        if (s == null) return -11;
        if (s.lane() != lane) return -13;
        int[] fresh = new int[24];
        for (int i = 0; i < 24; i++) {
            if (!in((long) f + i, 0, s.length() - 1)) return -12;
            if (!in(s.get(f + i), -500, 500)) return -20 - i;
            fresh[i] = s.get(f + i);
        }
        tides = fresh;
        return 1;
    }

    int count(int what) {
        long water = 0;
        int on = 0;
        for (Ditch d : ditches) water += d.water;
        for (Pump p : pumps) on += p.on ? 1 : 0;
        switch (what) {
            case 0: return ditches.size();
            case 1: return weirs.size();
            case 2: return pumps.size();
            case 3: return sluices.size();
            case 4: return worlds.size();
            case 5: return hour;
            case 6: return alarms();
            case 7: return (int) spent;
            case 8: return on;
            case 9: return (int) water;
            default: return BAD;
        }
    }
}
