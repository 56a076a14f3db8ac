/** Promises 10 to 18: copies laid and taken up, links that fail, the rate, undone, told deeds, years. */
public final class DeedsTest {
    public static void main(String[] args) {
        layAndTake();
        failAndMend();
        rates();
        undone();
        judged();
        performed();
        years();
        Check.end();
    }

    private static void layAndTake() {
        SpareRings x = Check.told(RingsTest.SQUARE);
        Check.due("take(0) of none", x.take(0), -12);
        for (int n = 1; n <= 9; n++) {
            Check.due("lay(0)", x.lay(0), n);
        }
        Check.due("lay(0), the tenth", x.lay(0), -12);
        Check.due("copies", x.count(3), 9);
        Check.due("lay(3)", x.lay(3), -11);
        Check.due("lay(-1)", x.lay(-1), -11);
        Check.due("take(3)", x.take(3), -11);
        Check.due("take(-1)", x.take(-1), -11);
        Check.due("take(1)", x.take(1), -12);
        Check.due("take(0)", x.take(0), 8);
        Check.due("ring(0, 5)", x.ring(0, 5), 8);
        Check.due("lay(1)", x.lay(1), 1);
        Check.due("copies", x.count(3), 9);
        Check.due("undone: only what was done", x.count(6), 10);
    }

    /** Where unit u of a link runs: ring, copy and path. */
    private static void runs(SpareRings x, int l, int u, int ring, int copy, int path) {
        Check.due("runs(" + l + ", " + u + ", 0)", x.runs(l, u, 0), ring);
        Check.due("runs(" + l + ", " + u + ", 1)", x.runs(l, u, 1), copy);
        Check.due("runs(" + l + ", " + u + ", 2)", x.runs(l, u, 2), path);
    }

    private static void failAndMend() {
        SpareRings x = Check.told(RingsTest.SQUARE);
        Check.due("mend(0)", x.mend(0), -12);
        Check.due("fail(5)", x.fail(5), -11);
        Check.due("fail(-1)", x.fail(-1), -11);
        Check.due("mend(5)", x.mend(5), -11);
        Check.due("lay(0)", x.lay(0), 1);
        Check.due("fail(4): either side of the ring", x.fail(4), 0);
        runs(x, 4, 0, 0, 0, 3);
        runs(x, 4, 1, 0, 0, 12);
        Check.due("fail(4) again", x.fail(4), -12);
        Check.due("fail(0): on a path of link 4", x.fail(0), 2);
        runs(x, 4, 0, -1, -1, -1);
        runs(x, 4, 1, 0, 0, 12);
        runs(x, 0, 0, -1, -1, -1);
        Check.due("lay(1): paths with failed links", x.lay(1), 1);
        Check.due("lost()", x.lost(), 2);
        Check.due("lay(2)", x.lay(2), 1);
        Check.due("lost()", x.lost(), 1);
        runs(x, 4, 0, 2, 0, 12);
        Check.due("mend(0)", x.mend(0), 0);
        runs(x, 4, 0, 2, 0, 12);
        Check.due("take(0): its unit tries others", x.take(0), 0);
        Check.due("lost()", x.lost(), 0);
        runs(x, 4, 1, 1, 0, 3);
        Check.due("fail(3)", x.fail(3), 1);
        runs(x, 4, 0, -1, -1, -1);
        Check.due("mend(4)", x.mend(4), 0);
        runs(x, 4, 1, -1, -1, -1);
        Check.due("links that have failed", x.count(4), 8);
        copyByCopy();
        onlyTheLastCopy();
        bothSidesTaken();
    }

    /** A ring of six: on its sides run both units of a chord (6), so that none is left for another one (7). */
    private static void bothSidesTaken() {
        String six = "net nodes 6 rate 0;link 2 3 long 1 work 0;link 3 4 long 1 work 0;link 4 5 long 1 work 0;"
                + "link 5 0 long 1 work 0;link 0 1 long 1 work 0;link 1 2 long 1 work 0;link 0 2 long 1 work 2;"
                + "link 3 5 long 1 work 1;may:links=6;";
        SpareRings x = Check.told(six);
        Check.due("rings()", x.rings(), 1);
        x.lay(0);
        Check.due("fail(6)", x.fail(6), 0);
        runs(x, 6, 0, 0, 0, 15);
        runs(x, 6, 1, 0, 0, 48);
        Check.due("fail(7)", x.fail(7), 1);
        Check.due("mend(6)", x.mend(6), 0);
        runs(x, 7, 0, 0, 0, 6);
        Check.due("fail(6): one side is left", x.fail(6), 1);
        runs(x, 6, 0, 0, 0, 48);
        SpareRings y = Check.told(six);
        y.fail(7);
        Check.due("fail(6) without copies", y.fail(6), 3);
        y.lay(0);
        Check.due("all try at once", y.lost(), 1);
        runs(y, 6, 0, 0, 0, 15);
        runs(y, 6, 1, 0, 0, 48);
        y.lay(0);
        runs(y, 7, 0, 0, 1, 6);
    }

    private static void copyByCopy() {
        SpareRings x = Check.told("net nodes 3 rate 0;link 0 1 long 1 work 2;link 1 2 long 1 work 2;link 2 0 long 1 work 0;");
        x.lay(0);
        Check.due("fail(0)", x.fail(0), 1);
        runs(x, 0, 0, 0, 0, 6);
        runs(x, 0, 1, -1, -1, -1);
        x.lay(0);
        runs(x, 0, 1, 0, 1, 6);
        Check.due("fail(1): the ring is broken", x.fail(1), 4);
        Check.due("mend(0)", x.mend(0), 0);
        runs(x, 1, 0, 0, 0, 5);
        runs(x, 1, 1, 0, 1, 5);
    }

    private static void onlyTheLastCopy() {
        SpareRings x = Check.told("net nodes 3 rate 0;link 0 1 long 1 work 1;link 1 2 long 1 work 0;link 2 0 long 1 work 0;");
        x.lay(0);
        x.lay(0);
        x.fail(0);
        Check.due("take(0)", x.take(0), 1);
        runs(x, 0, 0, 0, 0, 6);
        Check.due("take(0)", x.take(0), 0);
        Check.due("lost()", x.lost(), 1);
    }

    private static void rates() {
        SpareRings x = Check.told(RingsTest.SQUARE + "may:links=3 or rate<5;costs:rate+1;");
        x.lay(1);
        x.fail(0);
        Check.due("rate(4): the same rings", x.rate(4), 3);
        Check.due("copies stay", x.count(3), 1);
        Check.due("failed ones stay", x.count(4), 1);
        runs(x, 0, 0, 1, 0, 18);
        Check.due("costs don't", x.ring(1, 3), 15);
        Check.due("rate(5): others", x.rate(5), 2);
        Check.due("copies are taken up", x.count(3), 0);
        Check.due("links are mended", x.count(4), 0);
        Check.due("numbered anew", x.ringOf(19), 0);
        Check.due("rate", x.count(2), 5);
        Check.due("rate(10)", x.rate(10), -11);
        Check.due("rate(-1)", x.rate(-1), -11);
        Check.due("rate", x.count(2), 5);
        x.lay(0);
        Check.due("rate(5) again", x.rate(5), 2);
        Check.due("copies stay", x.count(3), 1);
        Check.due("undo(2)", x.undo(2), 4);
        Check.due("undo(1)", x.undo(1), 3);
        Check.due("rings as they were", x.rings(), 3);
        Check.due("copies as they were", x.ring(1, 5), 1);
        runs(x, 0, 0, 1, 0, 18);
        Check.due("undo(1)", x.undo(1), 2);
        Check.due("the first rate", x.count(2), 1);
        Check.due("its cost", x.ring(1, 3), 6);
    }

    private static void undone() {
        SpareRings x = Check.told(RingsTest.SQUARE);
        Check.due("undo(1) of nothing", x.undo(1), -3);
        for (int i = 0; i < 9; i++) {
            x.lay(1);
        }
        x.lay(1);
        x.take(2);
        x.fail(7);
        Check.due("refused calls can't be undone", x.count(6), 9);
        x.lay(0);
        x.fail(4);
        Check.due("ten at most", x.count(6), 10);
        Check.due("undo(0)", x.undo(0), -3);
        Check.due("undo(-1)", x.undo(-1), -3);
        Check.due("undo(11)", x.undo(11), -3);
        Check.due("undo(1)", x.undo(1), 9);
        Check.due("undo(10), more than can be", x.undo(10), -3);
        Check.due("failed", x.count(4), 0);
        Check.due("undo(9)", x.undo(9), 0);
        Check.due("the eldest is forgotten", x.ring(1, 5), 1);
        Check.due("copies", x.count(3), 1);
    }

    private static void judgedAs(SpareRings x, int tray, int place, int why, int lost, int failed) {
        int[] all = {place, why, lost, failed};
        for (int what = 0; what < 4; what++) {
            Check.due("judge(" + tray + ", " + what + ")", x.judge(tray, what), all[what]);
        }
    }

    private static void judged() {
        SpareRings x = Check.told(RingsTest.SQUARE + "may:rate<9;");
        Check.due("judge(0, 0)", x.judge(0, 0), -6);
        Check.due("judge(4, 0)", x.judge(4, 0), -2);
        Check.due("judge(0, 4)", x.judge(0, 4), -2);
        Check.due("judge(-1, -1)", x.judge(-1, -1), -2);
        Check.fill(x, 0, 1);
        judgedAs(x, 0, -1, 0, 0, 0);
        Check.fill(x, 0, 1, 104, 200, 100, 110);
        judgedAs(x, 0, -1, 0, 1 - 1, 16);
        Check.fill(x, 0, 1, 104, 100, 111, 200);
        judgedAs(x, 0, 2, 2, 3, 17);
        Check.fill(x, 0, 1, 104, 104);
        judgedAs(x, 0, 1, 2, 2, 16);
        Check.fill(x, 0, 1, 104, 105);
        judgedAs(x, 0, 1, 1, 2, 16);
        Check.fill(x, 0, 1, 104, 19, 200);
        judgedAs(x, 0, 2, 1, 0, 0);
        Check.fill(x, 0, 1, 104, 18, 302);
        judgedAs(x, 0, 2, 2, 2, 16);
        Check.fill(x, 0, 1, 200, 200, 200, 200, 200, 200, 200, 200, 200, 200);
        judgedAs(x, 0, 9, 2, 0, 0);
        long[] others = {0, 9, 20, 99, 105, 109, 115, 119, 120, 199, 203, 299, 303, 399, 400, -1, -200, 1000};
        for (long v : others) {
            Check.fill(x, 0, 1, v);
            judgedAs(x, 0, 0, 1, 0, 0);
        }
        Check.fill(x, 3, 3, (1L << 32) + 200, Long.MIN_VALUE);
        judgedAs(x, 3, 0, 1, 0, 0);
        Check.due("nothing is done", x.count(3) + x.count(4) + x.count(6), 0);
        Check.due("the rate", x.count(2), 1);
    }

    private static void performed() {
        SpareRings x = Check.told(RingsTest.SQUARE);
        Check.due("perform(4)", x.perform(4), -2);
        Check.due("perform(-1)", x.perform(-1), -2);
        Check.due("perform(1)", x.perform(1), -6);
        Check.fill(x, 1, 2);
        Check.due("perform of none", x.perform(1), 0);
        Check.fill(x, 1, 2, 201, 100, 13, 302, 200);
        Check.due("perform(1)", x.perform(1), 3);
        Check.due("one call to be undone", x.count(6), 1);
        Check.due("rate", x.count(2), 3);
        Check.due("failed", x.count(4), 1);
        Check.due("copies", x.count(3), 1);
        Check.fill(x, 1, 2, 100, 200);
        Check.due("perform of none that can be", x.perform(1), 0);
        Check.due("nothing more to be undone", x.count(6), 1);
        Check.due("undo(1)", x.undo(1), 0);
        Check.due("rate", x.count(2), 1);
        Check.due("failed", x.count(4), 0);
        Check.due("copies", x.count(3), 0);
        Check.fill(x, 1, 0, 100, 110, 19);
        Check.due("numbers of 8 bits", x.perform(1), 3);
        Check.due("rate", x.count(2), 9);
    }

    /** The next draw by a seed, which goes on. */
    static int draw(int[] seed) {
        seed[0] = seed[0] * 1103515245 + 12345;
        return seed[0] >>> 16;
    }

    /** A year's deeds one by one by the calls themselves: how many could be. */
    private static int byHand(SpareRings x, int seed, int times) {
        int[] s = {seed};
        int done = 0;
        for (int i = 0; i < times; i++) {
            int sort = draw(s) % 5;
            int which = draw(s) % (sort <= 2 ? 12 : 10);
            int answer = sort <= 1 ? x.lay(which) : sort == 2 ? x.take(which) : sort == 3 ? x.fail(which) : x.mend(which);
            done += answer >= 0 ? 1 : 0;
        }
        return done;
    }

    private static void years() {
        SpareRings x = new SpareRings();
        Check.due("year(5, 40) of nothing", x.year(5, 40), 0);
        Check.due("nothing to be undone", x.count(6), 0);
        Check.due("year(5, 0)", x.year(5, 0), -3);
        Check.due("year(5, 41)", x.year(5, 41), -3);
        int[] seeds = {0, 1, -1, 77, Integer.MIN_VALUE, Integer.MAX_VALUE, 123456789};
        for (int seed : seeds) {
            SpareRings a = Check.told(RingsTest.five(""));
            SpareRings b = Check.told(RingsTest.five(""));
            for (int times = 1; times <= 40; times += 13) {
                Check.due("year(" + seed + ", " + times + ")", a.year(seed, times), byHand(b, seed, times));
                Check.due("copies", a.count(3), b.count(3));
                Check.due("failed", a.count(4), b.count(4));
                Check.due("lost", a.lost(), b.lost());
            }
            Check.holds("each year is one call", a.count(6) <= 4);
        }
    }
}
