/** Promises 20 to 24, and the constants. */
final class SheetsTest {
    private static final int FAR = -1000000;
    private static final int LOWEST = Integer.MIN_VALUE, HIGHEST = Integer.MAX_VALUE;

    private SheetsTest() {
    }

    public static void main(String[] args) {
        constants();
        sheet();
        lay();
        lanes();
        rain();
        rainUpToTheFirstMet();
        tides();
        tidesUpToTheFirstMet();
        count();
        Due.end();
    }

    private static void constants() {
        Due.is("BAD", LowLand.BAD, -1);
        Due.is("STATE", LowLand.STATE, -2);
        Due.is("FULL", LowLand.FULL, -3);
        Due.is("NONE", LowLand.NONE, -4);
    }

    /** Promise 20. */
    private static void sheet() {
        LowLand x = new LowLand();
        int[][] bad = {{-1, 0, 0}, {4, 0, 0}, {0, -1, 0}, {0, 3, 0}, {0, 0, 61}, {0, 0, HIGHEST}, {4, 0, -1}, {0, 3, -1}};
        for (int[] b : bad) {
            Due.is("bad", x.sheet(b[0], b[1], b[2]), -1);
        }
        Due.is("SIZE", x.sheet(0, 0, -1), -14);
        Due.is("SIZE", x.sheet(3, 2, LOWEST), -14);
        Due.is("still nothing", x.lay(0, 0, 0), -11);
        Due.is("no cells", x.sheet(0, 0, 0), 1);
        Due.is("no cells", x.lay(0, 0, 0), -12);
        Due.is("the most cells", x.sheet(3, 2, 60), 1);
        Due.is("the last cell", x.lay(3, 59, 7), 1);
        Due.is("the first cell", x.lay(3, 0, 500), 1);
        Due.is("refused", x.sheet(3, 2, 61), -1);
        Due.is("refused", x.sheet(3, 1, -1), -14);
        Due.is("the sheet is the old one", x.tides(3, 2, 0), 1);
        Due.is("its cell", x.tide(0, 0), 500);
        Due.is("a new row", x.sheet(3, 2, 60), 1);
        Due.is("tides", x.tides(3, 2, 0), 1);
        Due.is("of cells 0", x.tide(0, 0), 0);
        Due.is("shorter", x.sheet(3, 0, 2), 1);
        Due.is("shorter", x.lay(3, 2, 0), -12);
    }

    /** Promise 21. */
    private static void lay() {
        LowLand x = new LowLand();
        Due.is("bad", x.lay(-1, 0, 0), -1);
        Due.is("bad", x.lay(4, 0, 0), -1);
        Due.is("NULL", x.lay(2, 99, 0), -11);
        x.sheet(2, 2, 10);
        Due.is("NULL of another", x.lay(1, 0, 0), -11);
        Due.is("INDEX", x.lay(2, 10, 0), -12);
        Due.is("INDEX", x.lay(2, -1, 0), -12);
        Due.is("INDEX", x.lay(2, LOWEST, 0), -12);
        Due.is("INDEX", x.lay(2, HIGHEST, 0), -12);
        Due.is("lay", x.lay(2, 9, HIGHEST), 1);
        Due.is("lay", x.lay(2, 0, 5), 1);
        Due.is("the last word", x.lay(2, 0, 6), 1);
        x.ditch(1, 0, 0);
        Due.is("rain", x.rain(2, 2, 0, 1), 0);
        Due.is("water", x.told(0, 0), 6);
        Due.is("a great number", x.rain(2, 2, 9, 1), -20);
    }

    /** Promise 21: the lowest bits. */
    private static void lanes() {
        int[][] laid = {{0, 256 + 7, 7}, {0, 255, -1}, {0, 128, -128}, {0, 65536 - 3, -3}, {1, 65536 + 499, 499},
            {1, 65535, -1}, {1, 65536 - 500, -500}, {1, 256 + 7, 263}, {2, 499, 499}, {2, -500, -500}};
        for (int[] row : laid) {
            LowLand x = new LowLand();
            x.sheet(1, row[0], 24);
            Due.is("lay", x.lay(1, 23, row[1]), 1);
            Due.is("tides", x.tides(1, row[0], 0), 1);
            Due.is("cell", x.tide(23, 0), row[2]);
        }
        LowLand x = new LowLand();
        x.sheet(0, 2, 24);
        x.lay(0, 0, 65536);
        Due.is("ints are not cut", x.tides(0, 2, 0), -20);
        x.sheet(0, 1, 24);
        x.lay(0, 0, 32768);
        Due.is("shorts are below 0", x.tides(0, 1, 0), -20);
    }

    /** Promise 22. */
    private static void rain() {
        LowLand x = new LowLand();
        x.ditch(2, 0, 0);
        x.ditch(1, 0, 0);
        x.band(0, 0, 10);
        x.band(1, 0, 3);
        x.sheet(0, 0, 30);
        int[][] bad = {{-1, 0, 0, 1}, {4, 0, 0, 1}, {0, -1, 0, 1}, {0, 3, 0, 1}, {0, 0, 0, -1}, {0, 0, 0, 25}, {1, 0, 0, 25}};
        for (int[] b : bad) {
            Due.is("bad", x.rain(b[0], b[1], b[2], b[3]), -1);
        }
        Due.is("NULL", x.rain(1, 0, 0, 1), -11);
        Due.is("NULL of no cells", x.rain(1, 0, 0, 0), -11);
        Due.is("CAST", x.rain(0, 1, 0, 1), -13);
        Due.is("CAST", x.rain(0, 2, 99, 1), -13);
        Due.is("CAST of no cells", x.rain(0, 2, 0, 0), -13);
        Due.is("INDEX", x.rain(0, 0, 30, 1), -12);
        Due.is("INDEX", x.rain(0, 0, -1, 2), -12);
        Due.is("INDEX", x.rain(0, 0, HIGHEST, 24), -12);
        Due.is("INDEX", x.rain(0, 0, LOWEST, 24), -12);
        Due.is("no step was made", x.count(5), 0);
        Due.is("no cells", x.rain(0, 0, HIGHEST, 0), 0);
        x.lay(0, 4, 2);
        x.lay(0, 5, 1);
        x.lay(0, 6, 1);
        x.lay(0, 7, 100);
        Due.is("steps", x.rain(0, 0, 3, 3), 0);
        Due.is("hours", x.count(5), 3);
        Due.is("water", x.told(0, 0), 6);
        Due.is("alarms behind the last", x.rain(0, 0, 6, 1), 1);
        Due.is("alarms behind the last", x.rain(0, 0, 6, 2), 2);
        Due.is("no cells: 0", x.rain(0, 0, 6, 0), 0);
        Due.is("the most cells", x.rain(0, 0, 6, 24), 2);
        Due.is("hours", x.count(5), 30);
    }

    /** Promise 22: the first met; the steps ahead of it were made. */
    private static void rainUpToTheFirstMet() {
        LowLand x = new LowLand();
        x.ditch(1, 0, 0);
        x.sheet(0, 1, 5);
        for (int i = 0; i < 5; i++) {
            x.lay(0, i, i + 1);
        }
        x.lay(0, 2, 101);
        Due.is("no rain", x.rain(0, 1, 0, 5), -22);
        Due.is("hours", x.count(5), 2);
        Due.is("water", x.told(0, 0), 3);
        Due.is("no rain ahead of INDEX", x.rain(0, 1, 1, 10), -21);
        Due.is("hours", x.count(5), 3);
        Due.is("no rain at once", x.rain(0, 1, 2, 10), -20);
        Due.is("hours", x.count(5), 3);
        Due.is("INDEX behind two steps", x.rain(0, 1, 3, 3), -12);
        Due.is("hours", x.count(5), 5);
        Due.is("water", x.told(0, 0), 3 + 2 + 4 + 5);
        x.lay(0, 2, -1);
        Due.is("below 0", x.rain(0, 1, 0, 3), -22);
        x.lay(0, 2, 100);
        Due.is("up to the end", x.rain(0, 1, 0, 5), 0);
        Due.is("hours", x.count(5), 12);
    }

    /** Promise 23. */
    private static void tides() {
        LowLand x = new LowLand();
        x.sheet(0, 1, 26);
        int[][] bad = {{-1, 1, 0}, {4, 1, 0}, {0, -1, 0}, {0, 3, 0}, {1, 3, 0}};
        for (int[] b : bad) {
            Due.is("bad", x.tides(b[0], b[1], b[2]), -1);
        }
        Due.is("NULL", x.tides(1, 1, 0), -11);
        Due.is("CAST", x.tides(0, 0, 0), -13);
        Due.is("CAST", x.tides(0, 2, -1), -13);
        Due.is("INDEX", x.tides(0, 1, 3), -12);
        Due.is("INDEX", x.tides(0, 1, -1), -12);
        Due.is("INDEX", x.tides(0, 1, HIGHEST), -12);
        Due.is("INDEX", x.tides(0, 1, LOWEST), -12);
        for (int i = 0; i < 26; i++) {
            x.lay(0, i, i * 40 - 500);
        }
        x.step(0);
        Due.is("tides", x.tides(0, 1, 2), 1);
        for (int h = 0; h < 24; h++) {
            Due.is("from hour 0 of the day, whatever hour is", x.tide(h, 9), h * 40 - 420);
        }
        Due.is("tides", x.tides(0, 1, 0), 1);
        x.lay(0, 0, 77);
        Due.is("the tides are a copy", x.tide(0, 0), -500);
    }

    /** Promise 23: the first met; then none changed. */
    private static void tidesUpToTheFirstMet() {
        LowLand x = new LowLand();
        x.sheet(0, 2, 25);
        for (int i = 0; i < 25; i++) {
            x.lay(0, i, 500);
        }
        x.lay(0, 24, 501);
        Due.is("the last is no tide", x.tides(0, 2, 1), -43);
        Due.is("none changed", x.tide(0, 0), 0);
        x.lay(0, 3, -501);
        Due.is("the first met", x.tides(0, 2, 1), -22);
        Due.is("no tide ahead of INDEX", x.tides(0, 2, 2), -21);
        Due.is("INDEX at once", x.tides(0, 2, 25), -12);
        x.lay(0, 3, -500);
        Due.is("no tide", x.tides(0, 2, 2), -42);
        x.lay(0, 24, 500);
        Due.is("INDEX at the end", x.tides(0, 2, 2), -12);
        Due.is("none changed", x.tide(3, 0), 0);
        Due.is("all are tides", x.tides(0, 2, 1), 1);
        Due.is("changed", x.tide(2, 0), -500);
        Due.is("changed", x.tide(23, 0), 500);
    }

    /** Promise 24. */
    private static void count() {
        LowLand x = new LowLand();
        x.ditch(1, 0, 10);
        x.ditch(2, 0, 30);
        x.ditch(3, 0, 50);
        x.weir(0, 1, 500, 1);
        x.weir(1, 0, 500, 1);
        for (int p = 0; p < 4; p++) {
            x.pump(2, LowLand.NONE, 1, 1, p == 0 ? 2 : 0);
        }
        x.sluice(0, 1);
        x.world();
        x.world();
        x.band(0, 0, 9);
        x.turn(0, true);
        x.turn(3, true);
        x.price(0, 7);
        int[] first = {3, 2, 4, 1, 2, 0, 1, 0, 2, 90};
        for (int what = 0; what < 10; what++) {
            Due.is("count " + what, x.count(what), first[what]);
        }
        Due.is("step", x.step(1), 1);
        int[] second = {3, 2, 4, 1, 2, 1, 1, 14, 2, 94};
        for (int what = 0; what < 10; what++) {
            Due.is("count " + what, x.count(what), second[what]);
        }
        x.step(0);
        Due.is("cost so far", x.count(7), 15);
        Due.is("on", x.count(8), 1);
        Due.is("bad", x.count(10), -1);
        Due.is("bad", x.count(-1), -1);
        Due.is("bad", x.count(LOWEST), -1);
        Due.is("told of none", x.told(3, 0), FAR);
    }
}
