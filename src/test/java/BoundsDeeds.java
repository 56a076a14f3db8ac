/** Boundary cases of promises 10 to 18 and of the Terms of failing: deeds, undone, told, drawn. */
final class BoundsDeeds {
    private static final int[] NO_LINKS = {5, -1, 9, 10, 32, 36, 64, Bounds.MAX, Bounds.MIN};
    private static final int[] NO_RINGS = {3, -1, 36, 37, 40, 64, 65, Bounds.MAX, Bounds.MIN};
    /** Link 0 has two units, 1 and 2 one each; one ring. */
    private static final String TRIANGLE = "net nodes 3 rate 0;" + Bounds.link(0, 1, 1, 2) + Bounds.link(1, 2, 1, 1)
            + Bounds.link(2, 0, 1, 1);

    private BoundsDeeds() {
    }

    static void all() {
        staysFailed();
        keptOrLost();
        fails();
        linkByLink();
        ringByRing();
        copyByCopy();
        pathByPath();
        mends();
        lays();
        takes();
        ratesAreOther();
        whyNot();
        layRefused();
        takeRefused();
        failRefused();
        mendRefused();
        rateRefused();
        howMany();
        undone();
        tenAtMost();
        asAWhole();
        undoneEach();
        undoRefused();
        deeds();
        judged();
        judgeRefused();
        performed();
        performRefused();
        years();
        yearRefused();
        drawn();
    }

    private static void terms(String sentence) {
        Bounds.says(Bounds.TERMS, sentence);
    }

    private static void runs(SpareRings x, int l, int u, int ring, int copy, int path) {
        Bounds.due("runs(" + l + ", " + u + ", 0)", x.runs(l, u, 0), ring);
        Bounds.due("runs(" + l + ", " + u + ", 1)", x.runs(l, u, 1), copy);
        Bounds.due("runs(" + l + ", " + u + ", 2)", x.runs(l, u, 2), path);
    }

    private static void isLost(SpareRings x, int l, int u) {
        runs(x, l, u, -1, -1, -1);
    }

    // ---- failing

    private static void staysFailed() {
        terms("FAILING: LINKS that have failed stay so till they are mended.");
        SpareRings x = Bounds.square();
        Bounds.due("none at first", x.count(4), 0);
        for (int l = 0; l < 5; l++) {
            x.fail(l);
            Bounds.due("failed ones", x.count(4), (2 << l) - 1);
        }
        x.lay(0);
        x.lay(1);
        x.take(0);
        x.rate(9);
        x.year(1, 0);
        Bounds.due("they stay so", x.count(4), 31);
        for (int l = 4; l >= 0; l--) {
            x.mend(l);
            Bounds.due("till they are mended", x.count(4), (1 << l) - 1);
        }
        SpareRings ten = Bounds.told(Bounds.full(5, 1, 0));
        for (int l = 0; l < 10; l++) {
            ten.fail(l);
        }
        Bounds.due("ten have failed", ten.count(4), 1023);
    }

    private static void keptOrLost() {
        terms("A unit of a failed LINK is KEPT if it runs on a PATH of some COPY, else LOST.");
        SpareRings x = Bounds.told(TRIANGLE);
        Bounds.due("none is lost of links that haven't failed", x.lost(), 0);
        Bounds.due("fail(0) without a copy", x.fail(0), 2);
        x.lay(0);
        Bounds.due("lost() with one copy", x.lost(), 1);
        x.lay(0);
        Bounds.due("lost() with two", x.lost(), 0);
        x.lay(0);
        Bounds.due("lost() with three", x.lost(), 0);
        runs(x, 0, 0, 0, 0, 6);
        runs(x, 0, 1, 0, 1, 6);
        Bounds.due("work all lost", allLost(), 20);
    }

    private static int allLost() {
        SpareRings x = Bounds.told(Bounds.full(5, 1, 2));
        for (int l = 0; l < 10; l++) {
            x.fail(l);
        }
        return x.lost();
    }

    private static void fails() {
        terms("A LINK fails: units that run on a PATH with it are LOST first; then all LOST units, LINK by LINK, u by u, try:");
        SpareRings x = Bounds.square();
        x.lay(0);
        x.fail(4);
        runs(x, 4, 0, 0, 0, 3);
        runs(x, 4, 1, 0, 0, 12);
        Bounds.due("fail(2): on the second unit's path", x.fail(2), 2);
        runs(x, 4, 0, 0, 0, 3);
        isLost(x, 4, 1);
        isLost(x, 2, 0);
        SpareRings y = Bounds.square();
        y.lay(0);
        y.lay(1);
        y.fail(4);
        Bounds.due("fail(3): the unit finds another ring", y.fail(3), 0);
        runs(y, 4, 0, 0, 0, 3);
        runs(y, 4, 1, 1, 0, 3);
        Bounds.due("fail(0): on both their paths", y.fail(0), 3);
        // Link 1's own unit tries ahead of the one of link 4 that ran on it: it takes the other copy.
        SpareRings z = Bounds.square();
        z.lay(0);
        z.lay(0);
        z.fail(4);
        Bounds.due("fail(1): on the first unit's path", z.fail(1), 1);
        runs(z, 1, 0, 0, 1, 13);
        isLost(z, 4, 0);
        runs(z, 4, 1, 0, 0, 12);
    }

    private static void linkByLink() {
        terms("LINK by LINK, u by u, try:");
        SpareRings x = Bounds.square();
        x.fail(4);
        x.fail(1);
        Bounds.due("lost() of both", x.lost(), 3);
        x.lay(0);
        // Link 1's unit takes path 13, so that link 4's find none.
        runs(x, 1, 0, 0, 0, 13);
        isLost(x, 4, 0);
        isLost(x, 4, 1);
        x.lay(0);
        runs(x, 4, 0, 0, 1, 12);
        isLost(x, 4, 1);
        x.lay(0);
        runs(x, 4, 1, 0, 2, 12);
        Bounds.due("lost() with three copies", x.lost(), 0);
    }

    private static void ringByRing() {
        terms("RING by RING, COPY by COPY (0 and more), PATH by PATH,");
        SpareRings x = Bounds.square();
        x.lay(2);
        x.lay(1);
        x.fail(4);
        runs(x, 4, 0, 1, 0, 3);
        runs(x, 4, 1, 2, 0, 12);
        SpareRings y = Bounds.square();
        y.lay(2);
        y.fail(4);
        runs(y, 4, 0, 2, 0, 12);
        isLost(y, 4, 1);
        y.lay(0);
        runs(y, 4, 0, 2, 0, 12);
        runs(y, 4, 1, 0, 0, 3);
        SpareRings last = Bounds.told(Bounds.full(5, 1, 1));
        last.lay(36);
        last.fail(9);
        runs(last, 9, 0, 36, 0, 128 | 256);
    }

    private static void copyByCopy() {
        terms("COPY by COPY (0 and more)");
        SpareRings x = Bounds.told(Bounds.around(3, 1, 2));
        for (int i = 0; i < 9; i++) {
            x.lay(0);
        }
        x.fail(1);
        runs(x, 1, 0, 0, 0, 5);
        runs(x, 1, 1, 0, 1, 5);
        // Chords: two units each of five, both sides of each copy, fill five copies of a ring of five.
        SpareRings y = Bounds.told(chordsOfFive());
        for (int i = 0; i < 9; i++) {
            y.lay(0);
        }
        for (int l = 5; l < 10; l++) {
            Bounds.due("fail(" + l + ")", y.fail(l), 0);
        }
        for (int l = 5; l < 10; l++) {
            Bounds.due("copy of unit 0 of " + l, y.runs(l, 0, 1), l - 5);
            Bounds.due("copy of unit 1 of " + l, y.runs(l, 1, 1), l - 5);
        }
        SpareRings z = Bounds.told(TRIANGLE);
        z.fail(0);
        for (int i = 0; i < 9; i++) {
            z.lay(0);
        }
        runs(z, 0, 0, 0, 0, 6);
        runs(z, 0, 1, 0, 1, 6);
        for (int i = 9; i > 2; i--) {
            z.take(0);
        }
        Bounds.due("lost() with two copies", z.lost(), 0);
        z.take(0);
        Bounds.due("lost() with copy 0 alone", z.lost(), 1);
        runs(z, 0, 0, 0, 0, 6);
    }

    /** A ring of five (0 to 4) and its chords (5 to 9), two units on each; the ring alone may be. */
    private static String chordsOfFive() {
        return Bounds.around(5, 1, 0) + Bounds.link(0, 2, 1, 2) + Bounds.link(1, 3, 1, 2) + Bounds.link(2, 4, 1, 2)
                + Bounds.link(3, 0, 1, 2) + Bounds.link(4, 1, 1, 2) + "may:long=5 and links=5 and work=0;";
    }

    private static void pathByPath() {
        terms("the first PATH without a failed LINK and without a LINK on which in that COPY another unit runs: there it is KEPT.");
        SpareRings x = Bounds.square();
        x.lay(0);
        x.fail(0);
        runs(x, 0, 0, 0, 0, 14);
        x.fail(4);
        isLost(x, 4, 0);
        isLost(x, 4, 1);
        x.lay(0);
        // Path 3 has failed link 0: the first free one is 12, of copy 1.
        runs(x, 4, 0, 0, 1, 12);
        isLost(x, 4, 1);
        Bounds.due("mend(0): path 12 of copy 0 is free, and the first path", x.mend(0), 0);
        runs(x, 4, 1, 0, 0, 3);
        // On the same links, but of another copy or ring, others may run.
        SpareRings y = Bounds.square();
        y.lay(1);
        y.lay(1);
        y.fail(4);
        runs(y, 4, 0, 1, 0, 3);
        runs(y, 4, 1, 1, 1, 3);
        // Paths of one copy that share no link may both be used, those that share one may not.
        SpareRings z = Bounds.told(Bounds.around(6, 1, 0) + Bounds.link(0, 2, 1, 1) + Bounds.link(3, 5, 1, 1) + Bounds.link(1, 4, 1, 1)
                + "may:links=6;");
        int r = z.ringOf(63);
        z.lay(r);
        Bounds.due("fail(6)", z.fail(6), 0);
        Bounds.due("fail(7)", z.fail(7), 0);
        runs(z, 6, 0, r, 0, 3);
        runs(z, 7, 0, r, 0, 24);
        Bounds.due("fail(8): both its paths share a link", z.fail(8), 1);
        sharesWithTheFirst();
    }

    /** Three chords of a ring of six: paths 3 and 24 of the first two share nothing, 6 shares link 1 with the first alone. */
    private static void sharesWithTheFirst() {
        String net = Bounds.around(6, 1, 0) + Bounds.link(0, 2, 1, 1) + Bounds.link(3, 5, 1, 1) + Bounds.link(1, 3, 1, 1) + "may:links=6;";
        SpareRings x = Bounds.told(net);
        int r = x.ringOf(63);
        x.lay(r);
        x.fail(6);
        x.fail(7);
        Bounds.due("fail(8) behind them", x.fail(8), 1);
        runs(x, 6, 0, r, 0, 3);
        runs(x, 7, 0, r, 0, 24);
        SpareRings y = Bounds.told(net);
        y.fail(6);
        y.fail(7);
        y.fail(8);
        y.lay(r);
        Bounds.due("all try at once", y.lost(), 1);
        isLost(y, 8, 0);
        Bounds.due("mend(6): link 8's unit finds path 6", y.mend(6), 0);
        runs(y, 8, 0, r, 0, 6);
        Bounds.due("fail(6): its path shares link 1, the other side the rest", y.fail(6), 1);
        isLost(y, 6, 0);
    }

    private static void mends() {
        terms("A LINK is mended: its units run on it again, on no PATH; then all LOST units try so.");
        SpareRings x = Bounds.square();
        x.lay(0);
        x.fail(4);
        x.fail(1);
        Bounds.due("lost()", x.lost(), 2);
        Bounds.due("mend(4): its paths are left to link 1's unit", x.mend(4), 0);
        isLost(x, 4, 0);
        isLost(x, 4, 1);
        runs(x, 1, 0, 0, 0, 13);
        Bounds.due("link(4, 6)", x.link(4, 6), 0);
        Bounds.due("fail(4)", x.fail(4), 2);
        Bounds.due("mend(1)", x.mend(1), 0);
        runs(x, 4, 0, 0, 0, 3);
        runs(x, 4, 1, 0, 0, 12);
        Bounds.due("mend(4): none has failed", x.mend(4), 0);
        Bounds.due("count(4)", x.count(4), 0);
        // A unit that is kept stays where it runs, though a path ahead becomes free.
        SpareRings y = Bounds.square();
        y.lay(0);
        y.lay(1);
        y.fail(0);
        y.fail(1);
        y.fail(4);
        runs(y, 4, 0, 0, 0, 12);
        y.mend(0);
        y.mend(1);
        runs(y, 4, 0, 0, 0, 12);
        runs(y, 4, 1, 0, 0, 3);
    }

    private static void lays() {
        terms("A COPY is laid: LOST units try so.");
        SpareRings x = Bounds.square();
        x.fail(4);
        x.lay(2);
        runs(x, 4, 0, 2, 0, 12);
        isLost(x, 4, 1);
        x.lay(2);
        runs(x, 4, 0, 2, 0, 12);
        runs(x, 4, 1, 2, 1, 12);
        x.lay(0);
        x.lay(1);
        runs(x, 4, 0, 2, 0, 12);
        runs(x, 4, 1, 2, 1, 12);
    }

    private static void takes() {
        terms("The last COPY of a RING is taken up: units that run on it are LOST first, then all LOST units try so.");
        SpareRings x = Bounds.square();
        x.lay(1);
        x.lay(1);
        x.fail(4);
        Bounds.due("take(1): copy 1", x.take(1), 1);
        runs(x, 4, 0, 1, 0, 3);
        isLost(x, 4, 1);
        x.lay(2);
        runs(x, 4, 1, 2, 0, 12);
        x.lay(2);
        Bounds.due("take(1): copy 0", x.take(1), 0);
        runs(x, 4, 0, 2, 1, 12);
        runs(x, 4, 1, 2, 0, 12);
        x.take(2);
        isLost(x, 4, 0);
        runs(x, 4, 1, 2, 0, 12);
        // What copy 1 leaves may be a unit of a lesser link that takes the place of none.
        SpareRings y = Bounds.told(TRIANGLE);
        y.lay(0);
        y.lay(0);
        y.fail(0);
        Bounds.due("take(0)", y.take(0), 1);
        Bounds.due("take(0)", y.take(0), 0);
        Bounds.due("lost()", y.lost(), 2);
        Bounds.due("take(0)", y.take(0), -12);
        Bounds.due("lost()", y.lost(), 2);
        takesAllNine();
    }

    private static void takesAllNine() {
        SpareRings x = Bounds.told(chordsOfFive());
        for (int l = 5; l < 10; l++) {
            x.fail(l);
        }
        for (int i = 1; i <= 9; i++) {
            x.lay(0);
            Bounds.due("lost() with " + i, x.lost(), Math.max(0, 10 - 2 * i));
        }
        for (int i = 8; i >= 0; i--) {
            Bounds.due("take(0)", x.take(0), i);
            Bounds.due("lost() with " + i, x.lost(), Math.max(0, 10 - 2 * i));
        }
    }

    private static void ratesAreOther() {
        terms("By another RATE RINGS are found anew (numbered anew): if they aren't just those that were, by their LINKS, all COPIES "
                + "are taken up and all LINKS mended; else all stays (but COSTS).");
        // Two rings of two by either rate, but not the same two; by rates 3 and 4 the same ones.
        String text = Bounds.SQUARE + "may:links=4 and rate<9 or work=3 and links=3 and rate<5 or work=4 and rate>4 and rate<9;costs:rate+1;";
        SpareRings x = Bounds.told(text);
        Bounds.due("the second by rate 1", x.ring(1, 0), 28);
        x.lay(0);
        x.lay(1);
        x.fail(0);
        x.fail(3);
        runs(x, 0, 0, -1, -1, -1);
        Bounds.due("cost()", x.cost(), 8 + 6);
        Bounds.due("rate(4): the same ones", x.rate(4), 2);
        Bounds.due("copies stay", x.count(3), 2);
        Bounds.due("failed ones stay", x.count(4), 9);
        Bounds.due("lost units stay", x.lost(), 1);
        Bounds.due("cost()", x.cost(), 20 + 15);
        Bounds.due("rate(5): as many, but others", x.rate(5), 2);
        Bounds.due("the second by rate 5", x.ring(1, 0), 19);
        Bounds.due("copies are taken up", x.count(3), 0);
        Bounds.due("links are mended", x.count(4), 0);
        Bounds.due("none is lost", x.lost(), 0);
        x.lay(0);
        x.fail(1);
        Bounds.due("rate(9): none", x.rate(9), 0);
        Bounds.due("copies are taken up", x.count(3), 0);
        Bounds.due("links are mended", x.count(4), 0);
        x.fail(2);
        Bounds.due("rate(9) again: the same none", x.rate(9), 0);
        Bounds.due("failed ones stay", x.count(4), 4);
        Bounds.due("rate(8)", x.rate(8), 2);
        Bounds.due("links are mended", x.count(4), 0);
        SpareRings kept = Bounds.told(Bounds.SQUARE + "costs:rate+1;");
        kept.lay(0);
        kept.fail(4);
        kept.rate(9);
        runs(kept, 4, 0, 0, 0, 3);
        runs(kept, 4, 1, 0, 0, 12);
        Bounds.due("ring(0, 3)", kept.ring(0, 3), 40);
    }

    // ---- why not

    private static void whyNot() {
        terms("Why not: 1 no such LINK, RING, RATE. 2 it has failed (to fail), it hasn't (to mend), there are 9 COPIES (to lay), none (to take up).");
        Bounds.same(Bounds::broken, "lay(0), nine", -12, x -> x.lay(0));
        Bounds.same(Bounds::broken, "take(1), none", -12, x -> x.take(1));
        Bounds.same(Bounds::broken, "fail(0), failed", -12, x -> x.fail(0));
        Bounds.same(Bounds::square, "mend(0), not failed", -12, x -> x.mend(0));
        SpareRings x = Bounds.broken();
        Bounds.due("take(0) of nine", x.take(0), 8);
        Bounds.due("lay(0) of eight", x.lay(0), 9);
        Bounds.due("lay(1) of none", x.lay(1), 1);
        Bounds.due("take(1) of one", x.take(1), 0);
        Bounds.due("mend(0)", x.mend(0), 4);
        Bounds.due("mend(0) again", x.mend(0), -12);
        Bounds.due("fail(0)", x.fail(0), 5);
        Bounds.due("fail(0) again", x.fail(0), -12);
    }

    private static void layRefused() {
        Bounds.says(10, "A COPY is laid: how many there are of the RING. -11, -12.");
        Bounds.sameEach(Bounds::busy, "lay", -11, (x, r) -> x.lay(r), NO_RINGS);
        Bounds.sameEach(Bounds::broken, "lay", -11, (x, r) -> x.lay(r), NO_RINGS);
        Bounds.sameEach(Bounds::fresh, "lay", -11, (x, r) -> x.lay(r), 0, -1, 1, Bounds.MAX, Bounds.MIN);
        Bounds.same(Bounds::broken, "lay(0), the tenth", -12, x -> x.lay(0));
        SpareRings x = Bounds.told(Bounds.full(5, 1, 0));
        for (int n = 1; n <= 9; n++) {
            Bounds.due("lay(36)", x.lay(36), n);
        }
        Bounds.due("lay(36), the tenth", x.lay(36), -12);
        Bounds.due("lay(37)", x.lay(37), -11);
        Bounds.due("lay(35)", x.lay(35), 1);
    }

    private static void takeRefused() {
        Bounds.says(11, "The last COPY is taken up: how many are left of the RING. -11, -12.");
        Bounds.sameEach(Bounds::busy, "take", -11, (x, r) -> x.take(r), NO_RINGS);
        Bounds.sameEach(Bounds::fresh, "take", -11, (x, r) -> x.take(r), 0, -1, 1, Bounds.MAX, Bounds.MIN);
        Bounds.sameEach(Bounds::square, "take of none", -12, (x, r) -> x.take(r), 0, 1, 2);
        Bounds.sameEach(Bounds::broken, "take of none", -12, (x, r) -> x.take(r), 1, 2);
        SpareRings x = Bounds.broken();
        for (int n = 8; n >= 0; n--) {
            Bounds.due("take(0)", x.take(0), n);
        }
        Bounds.due("take(0) of none", x.take(0), -12);
        Bounds.due("take(3)", x.take(3), -11);
    }

    private static void failRefused() {
        Bounds.says(12, "A LINK fails: how many units are LOST then, of all. -11, -12.");
        Bounds.sameEach(Bounds::busy, "fail", -11, (x, l) -> x.fail(l), NO_LINKS);
        Bounds.sameEach(Bounds::fresh, "fail", -11, (x, l) -> x.fail(l), 0, -1, 1, Bounds.MAX, Bounds.MIN);
        Bounds.sameEach(Bounds::busy, "fail of failed ones", -12, (x, l) -> x.fail(l), 0, 4);
        Bounds.sameEach(Bounds::broken, "fail of failed ones", -12, (x, l) -> x.fail(l), 0, 1, 2, 3, 4);
        SpareRings x = Bounds.told(Bounds.full(5, 1, 2));
        for (int l = 0; l < 10; l++) {
            Bounds.due("fail(" + l + ")", x.fail(l), 2 * l + 2);
        }
        Bounds.due("fail(10)", x.fail(10), -11);
        Bounds.due("fail(9)", x.fail(9), -12);
        SpareRings kept = Bounds.square();
        kept.lay(0);
        Bounds.due("none is lost", kept.fail(4), 0);
        Bounds.due("of all: link 4's and its own", kept.fail(0), 2);
    }

    private static void mendRefused() {
        Bounds.says(13, "A LINK is mended: how many units are LOST then, of all. -11, -12.");
        Bounds.sameEach(Bounds::busy, "mend", -11, (x, l) -> x.mend(l), NO_LINKS);
        Bounds.sameEach(Bounds::fresh, "mend", -11, (x, l) -> x.mend(l), 0, -1, 1, Bounds.MAX, Bounds.MIN);
        Bounds.sameEach(Bounds::busy, "mend of others", -12, (x, l) -> x.mend(l), 1, 2, 3);
        Bounds.sameEach(Bounds::square, "mend of all", -12, (x, l) -> x.mend(l), 0, 1, 2, 3, 4);
        SpareRings x = Bounds.told(Bounds.full(5, 1, 2));
        for (int l = 0; l < 10; l++) {
            x.fail(l);
        }
        for (int l = 9; l >= 0; l--) {
            Bounds.due("mend(" + l + ")", x.mend(l), 2 * l);
        }
        Bounds.due("mend(10)", x.mend(10), -11);
        Bounds.due("mend(9)", x.mend(9), -12);
    }

    private static void rateRefused() {
        Bounds.says(14, "Another RATE (0 to 9): how many RINGS there are then. -11.");
        int[] none = {10, -1, 11, 19, 32, 256, Bounds.MAX, Bounds.MIN};
        Bounds.sameEach(Bounds::busy, "rate", -11, (x, n) -> x.rate(n), none);
        Bounds.sameEach(Bounds::fresh, "rate", -11, (x, n) -> x.rate(n), none);
        SpareRings x = Bounds.told(Bounds.SQUARE + "may:links=3 or rate=0 or rate=9;");
        for (int n = 0; n <= 9; n++) {
            Bounds.due("rate(" + n + ")", x.rate(n), n == 0 || n == 9 ? 3 : 2);
            Bounds.due("count(2)", x.count(2), n);
            Bounds.due("rings()", x.rings(), n == 0 || n == 9 ? 3 : 2);
        }
        Bounds.due("rate(9) as it is", x.rate(9), 3);
        Bounds.due("rate(0) of nothing", new SpareRings().rate(0), 0);
    }

    private static void howMany() {
        Bounds.says(10, "how many there are of the RING");
        SpareRings x = Bounds.square();
        x.lay(1);
        x.lay(1);
        Bounds.due("lay(0), of the ring alone", x.lay(0), 1);
        Bounds.says(11, "how many are left of the RING");
        Bounds.due("take(1), of the ring alone", x.take(1), 1);
        Bounds.due("take(0)", x.take(0), 0);
    }

    // ---- undone

    private static void undone() {
        Bounds.says(15, "n calls (1 to 10) are UNDONE: how many still can be.");
        for (int calls = 1; calls <= 12; calls++) {
            for (int n = 1; n <= 10; n++) {
                SpareRings x = Bounds.square();
                for (int i = 0; i < calls; i++) {
                    x.lay(i < 9 ? 0 : 1);
                }
                int can = Math.min(calls, 10);
                Bounds.due("count(6) behind " + calls, x.count(6), can);
                Bounds.due("undo(" + n + ") of " + calls, x.undo(n), n <= can ? can - n : -3);
                Bounds.due("count(6) behind undo(" + n + ")", x.count(6), n <= can ? can - n : can);
                Bounds.due("copies", x.count(3), n <= can ? calls - n : calls);
            }
        }
    }

    private static void tenAtMost() {
        terms("Calls that did some can be UNDONE each as a whole, the latest first, 10 at most (eldest are forgotten): "
                + "COPIES, LINKS that failed, what runs where, the RATE.");
        SpareRings x = Bounds.square();
        for (int i = 0; i < 40; i++) {
            x.rate(i % 10);
            Bounds.due("count(6)", x.count(6), Math.min(i + 1, 10));
        }
        for (int i = 38; i >= 29; i--) {
            Bounds.due("undo(1)", x.undo(1), i - 29);
            Bounds.due("the rate", x.count(2), i % 10);
        }
        Bounds.due("undo(1), the eldest are forgotten", x.undo(1), -3);
        Bounds.due("the rate", x.count(2), 9);
        // Nothing that was refused or did nothing counts.
        SpareRings y = Bounds.square();
        Bounds.fill(y, 0, 1, 9, 200);
        int[] nothing = {y.lay(3), y.take(0), y.fail(5), y.mend(0), y.rate(10), y.undo(1), y.perform(0), y.judge(0, 0), y.year(1, 41),
            y.ifFails(0), y.two(0, 1), y.image(0), y.yet(0, 0)};
        Bounds.due("calls that did none", nothing.length, 13);
        Bounds.due("count(6)", y.count(6), 0);
        Bounds.due("undo(1)", y.undo(1), -3);
        Bounds.due("lay(0)", y.lay(0), 1);
        Bounds.due("count(6)", y.count(6), 1);
    }

    private static void asAWhole() {
        terms("each as a whole, the latest first");
        SpareRings x = Bounds.told(Bounds.SQUARE + "may:rate<5;");
        x.lay(0);
        x.fail(4);
        Bounds.fill(x, 0, 1, 201, 100, 110, 13, 104, 200);
        Bounds.due("perform(0)", x.perform(0), 4);
        x.mend(4);
        x.rate(5);
        Bounds.due("nothing is left", x.count(3) + x.count(4) + x.rings(), 0);
        x.undo(1);
        Bounds.due("copies", x.count(3), 2);
        Bounds.due("the rate", x.count(2), 3);
        x.undo(1);
        Bounds.due("failed", x.count(4), 16);
        runs(x, 4, 0, 0, 0, 3);
        x.undo(1);
        Bounds.due("the rate", x.count(2), 1);
        Bounds.due("copies", x.count(3), 1);
        runs(x, 4, 0, 0, 0, 3);
        runs(x, 4, 1, 0, 0, 12);
        x.undo(1);
        Bounds.due("failed", x.count(4), 0);
        Bounds.due("undo(1)", x.undo(1), 0);
        Bounds.due("copies", x.count(3), 0);
        SpareRings y = Bounds.square();
        y.lay(0);
        y.lay(1);
        y.lay(2);
        Bounds.due("undo(2)", y.undo(2), 1);
        y.lay(2);
        Bounds.due("what was undone isn't done again", y.count(3), 2);
        Bounds.due("undo(2)", y.undo(2), 0);
        Bounds.due("copies", y.count(3), 0);
    }

    /** What any call did is undone as if it hadn't been: all that can be seen is as ahead of it. */
    private static void undoneEach() {
        terms("COPIES, LINKS that failed, what runs where, the RATE.");
        Bounds.Call[] calls = {x -> x.lay(1), x -> x.take(0), x -> x.fail(1), x -> x.mend(4), x -> x.rate(4), x -> x.rate(5),
            x -> x.perform(0), x -> x.year(3, 40)};
        for (int i = 0; i < calls.length; i++) {
            SpareRings x = laidAndFailed();
            Bounds.holds("call " + i + " can be", calls[i].on(x) >= 0);
            Bounds.due("count(6) behind call " + i, x.count(6), 6);
            Bounds.due("undo(1) of call " + i, x.undo(1), 5);
            Check.alike("call " + i + " undone", Bounds.look(x), Bounds.look(laidAndFailed()));
            for (int j = 0; j < calls.length; j++) {
                SpareRings y = laidAndFailed();
                long first = calls[i].on(y);
                String between = y.count(6) + " " + y.count(2) + " " + y.count(3) + " " + y.count(4) + " " + y.lost() + " " + y.cost();
                if (first >= 0 && calls[j].on(y) > 0) {
                    Bounds.due("undo(1) of call " + j + " behind " + i, y.undo(1), 6);
                    Check.alike("call " + j + " behind " + i + " undone", y.count(6) + " " + y.count(2) + " " + y.count(3) + " " + y.count(4)
                            + " " + y.lost() + " " + y.cost(), between);
                }
            }
        }
    }

    private static SpareRings laidAndFailed() {
        SpareRings x = Bounds.told(Bounds.SQUARE + "may:rate<5;costs:rate*9+long;");
        x.lay(0);
        x.lay(0);
        x.lay(2);
        x.fail(4);
        x.fail(0);
        Bounds.fill(x, 0, 2, 200, 201, 110, 12, 302);
        return x;
    }

    private static void undoRefused() {
        Bounds.says(15, "-3: n, more than can be.");
        Bounds.sameEach(Bounds::fresh, "undo", -3, (x, n) -> x.undo(n), 0, 1, -1, 10, Bounds.MAX, Bounds.MIN);
        Bounds.sameEach(Bounds::busy, "undo of six", -3, (x, n) -> x.undo(n), 0, 7, -1, 10, 11, Bounds.MAX, Bounds.MIN);
        Bounds.sameEach(Bounds::broken, "undo of ten", -3, (x, n) -> x.undo(n), 0, 11, -1, 12, 14, Bounds.MAX, Bounds.MIN);
        Bounds.due("undo(6) of six", Bounds.busy().undo(6), 0);
        Bounds.due("undo(10) of ten", Bounds.broken().undo(10), 0);
    }

    // ---- told deeds

    private static void deeds() {
        terms("DEEDS: 10 to 19: RATE v - 10; 100 to 109: LINK v - 100 fails; 110 to 119: LINK v - 110 is mended; "
                + "200 to 299: a COPY of RING v - 200 is laid; 300 to 399: one of RING v - 300 is taken up; others: 1.");
        for (int v = -2; v <= 402; v++) {
            SpareRings x = Bounds.told(Bounds.full(5, 1, 1) + "may:rate<9;");
            Bounds.fill(x, 0, 2, v);
            boolean done = v >= 10 && v <= 19 || v >= 100 && v <= 109 || v >= 200 && v <= 236;
            boolean asItIs = v >= 110 && v <= 119 || v >= 300 && v <= 336;
            Bounds.due("judge of " + v, x.judge(0, 1), done ? 0 : asItIs ? 2 : 1);
            Bounds.due("perform of " + v, x.perform(0), done ? 1 : 0);
            Bounds.due("the rate", x.count(2), v >= 10 && v <= 19 ? v - 10 : 0);
            Bounds.due("failed", x.count(4), v >= 100 && v <= 109 ? 1 << v - 100 : 0);
            Bounds.due("copies", x.count(3), v >= 200 && v <= 236 ? 1 : 0);
            Bounds.due("copies of the ring", x.ring(v - 200, 5), v >= 200 && v <= 236 ? 1 : v >= 200 ? -2 : x.ring(v - 200, 5));
        }
        for (int v = 110; v <= 119; v++) {
            SpareRings x = Bounds.told(Bounds.full(5, 1, 1));
            x.fail(v - 110);
            Bounds.fill(x, 0, 2, v, v);
            Bounds.due("perform of " + v, x.perform(0), 1);
            Bounds.due("failed", x.count(4), 0);
        }
        for (int v = 300; v <= 336; v++) {
            SpareRings x = Bounds.told(Bounds.full(5, 1, 1));
            x.lay(v - 300);
            Bounds.fill(x, 0, 2, v, v);
            Bounds.due("perform of " + v, x.perform(0), 1);
            Bounds.due("copies", x.count(3), 0);
        }
        long[] wide = {(1L << 32) + 200, (1L << 32) + 10, (1L << 33) + 100, (1L << 63) + 200, -200, -10, Long.MAX_VALUE, Long.MIN_VALUE,
            Integer.MAX_VALUE, Integer.MIN_VALUE, (1L << 16) + 200, (1L << 8) + 10};
        for (long v : wide) {
            Bounds.same(() -> withDeeds(v), "judge of " + v, 1, x -> x.judge(0, 1));
            Bounds.same(() -> withDeeds(v), "perform of " + v, 0, x -> x.perform(0));
        }
    }

    private static SpareRings withDeeds(long... deeds) {
        SpareRings x = Bounds.square();
        Bounds.fill(x, 0, 3, deeds);
        return x;
    }

    private static void judged() {
        Bounds.says(16, "DEEDS, judged as if done, what 0: the first place that can't be (NONE), 1: why (0), "
                + "2: how many units are LOST then, 3: LINKS that have failed then, as bits.");
        judgedAs(-1, 0, 0, 0);
        judgedAs(-1, 0, 2, 16, 104);
        judgedAs(0, 1, 0, 0, 105, 104);
        judgedAs(0, 2, 0, 0, 114, 104);
        judgedAs(0, 1, 0, 0, 203, 104);
        judgedAs(0, 2, 0, 0, 300, 104);
        judgedAs(0, 1, 0, 0, 0, 104);
        judgedAs(1, 2, 2, 16, 104, 104, 100);
        judgedAs(2, 2, 0, 0, 104, 114, 114, 100);
        judgedAs(3, 2, 2, 17, 104, 100, 200, 100);
        judgedAs(-1, 0, 5, 31, 100, 101, 102, 103, 104);
        judgedAs(9, 2, 0, 0, 200, 200, 200, 200, 200, 200, 200, 200, 200, 200);
        long[] forty = new long[40];
        for (int i = 0; i < 40; i++) {
            forty[i] = i % 2 == 0 ? 104 : 114;
        }
        judgedAs(-1, 0, 0, 0, forty);
        forty[39] = 104;
        judgedAs(39, 2, 2, 16, forty);
        forty[39] = 400;
        judgedAs(39, 1, 2, 16, forty);
        SpareRings busy = Bounds.busy();
        busy.numbers(0, 0, 0);
        Bounds.due("judge of no deeds: lost now", busy.judge(0, 2), busy.lost());
        Bounds.due("judge of no deeds: failed now", busy.judge(0, 3), 17);
        for (int what = 0; what < 4; what++) {
            Bounds.sameEach(Bounds::busy, "judge what " + what, new int[] {5, 1, 1, 17}[what], (x, w) -> x.judge(0, w), what);
        }
    }

    private static void judgedAs(int place, int why, int lost, int failed, long... deeds) {
        int[] all = {place, why, lost, failed};
        for (int what = 0; what < 4; what++) {
            int w = what;
            Bounds.same(() -> withDeeds(deeds), "judge(0, " + what + ") of " + deeds.length + " deeds", all[what], x -> x.judge(0, w));
        }
    }

    private static void judgeRefused() {
        Bounds.says(16, "-2: the TRAY, what; -6.");
        for (int what = -1; what <= 4; what++) {
            int w = what;
            Bounds.sameEach(Bounds::busy, "judge of tray, what " + what, -2, (x, t) -> x.judge(t, w), 4, -1, 32, Bounds.MAX, Bounds.MIN);
            Bounds.same(Bounds::busy, "judge of a missing tray, what " + what, what < 0 || what > 3 ? -2 : -6, x -> x.judge(3, w));
            Bounds.same(Bounds::fresh, "judge(0, " + what + ")", what < 0 || what > 3 ? -2 : -6, x -> x.judge(0, w));
        }
        Bounds.sameEach(Bounds::busy, "judge(0, what)", -2, (x, what) -> x.judge(0, what), -1, 4, 32, Bounds.MAX, Bounds.MIN);
        Bounds.sameEach(Bounds::busy, "judge(3, what)", -2, (x, what) -> x.judge(3, what), -1, 4, Bounds.MAX, Bounds.MIN);
    }

    private static void performed() {
        Bounds.says(17, "They are done, till one can't be: how many.");
        Bounds.same(() -> withDeeds(), "perform of none", 0, x -> x.perform(0));
        Bounds.same(() -> withDeeds(105, 104, 200), "perform, the first can't be", 0, x -> x.perform(0));
        Bounds.same(() -> withDeeds(114, 104, 200), "perform, the first can't be now", 0, x -> x.perform(0));
        SpareRings one = withDeeds(104);
        Bounds.due("perform of one", one.perform(0), 1);
        Bounds.due("count(6)", one.count(6), 1);
        Bounds.due("perform again", one.perform(0), 0);
        Bounds.due("count(6)", one.count(6), 1);
        SpareRings stops = withDeeds(104, 200, 104, 201, 100);
        Bounds.due("perform, the third can't be", stops.perform(0), 2);
        Bounds.due("those behind it aren't done", stops.count(3), 1);
        Bounds.due("failed", stops.count(4), 16);
        long[] forty = new long[40];
        for (int i = 0; i < 40; i++) {
            forty[i] = i % 2 == 0 ? 104 : 114;
        }
        SpareRings all = withDeeds(forty);
        Bounds.due("perform of forty", all.perform(0), 40);
        Bounds.due("one call to be undone", all.count(6), 1);
        forty[39] = 9;
        Bounds.due("perform of forty, the last can't be", withDeeds(forty).perform(0), 39);
        SpareRings ten = withDeeds(200, 200, 200, 200, 200, 200, 200, 200, 200, 200, 104);
        Bounds.due("perform of ten copies", ten.perform(0), 9);
        Bounds.due("copies", ten.count(3), 9);
    }

    private static void performRefused() {
        Bounds.says(17, "-2; -6.");
        int[] none = {4, -1, 32, Bounds.MAX, Bounds.MIN};
        Bounds.sameEach(Bounds::busy, "perform", -2, (x, t) -> x.perform(t), none);
        Bounds.sameEach(Bounds::fresh, "perform", -2, (x, t) -> x.perform(t), none);
        Bounds.sameEach(Bounds::fresh, "perform of a missing tray", -6, (x, t) -> x.perform(t), 0, 1, 2, 3);
        Bounds.same(Bounds::busy, "perform of a missing tray", -6, x -> x.perform(3));
        Bounds.same(Bounds::busy, "perform of an empty tray", 0, x -> x.perform(2));
        SpareRings x = Bounds.square();
        Bounds.fill(x, 3, 2, 200);
        Bounds.due("perform(3)", x.perform(3), 1);
    }

    // ---- years

    /** A year's deeds, each told by a tray of its own: how many could be. */
    private static int byTrays(SpareRings x, int seed, int times) {
        int[] s = {seed};
        int done = 0;
        for (int i = 0; i < times; i++) {
            int[] first = {200, 200, 300, 100, 110};
            int sort = DeedsTest.draw(s) % 5;
            int deed = first[sort] + DeedsTest.draw(s) % (sort < 3 ? 12 : 10);
            x.numbers(0, 2, 1);
            x.write(0, 0, deed);
            done += x.perform(0);
        }
        return done;
    }

    private static final int[] SEEDS = {0, 1, -1, 2, -2, 77, 12345, 65535, 65536, Bounds.MAX, Bounds.MIN, 0x7FFF0000, 1 << 30, 99991};

    private static void years() {
        Bounds.says(18, "A YEAR: how many could be.");
        String[] nets = {Bounds.full(5, 1, 1), Bounds.SQUARE, TRIANGLE, Bounds.full(5, 1, 2) + "may:links=5;"};
        for (String net : nets) {
            for (int seed : SEEDS) {
                for (int times : new int[] {1, 2, 3, 20, 39, 40}) {
                    SpareRings x = Bounds.told(net);
                    SpareRings y = Bounds.told(net);
                    int done = x.year(seed, times);
                    Bounds.due("year(" + seed + ", " + times + ")", done, byTrays(y, seed, times));
                    Bounds.due("copies", x.count(3), y.count(3));
                    Bounds.due("failed", x.count(4), y.count(4));
                    Bounds.due("lost()", x.lost(), y.lost());
                    Bounds.due("one call, if some could be", x.count(6), done > 0 ? 1 : 0);
                    Bounds.due("undo(1)", x.undo(1), done > 0 ? 0 : -3);
                    Bounds.due("all as it was", x.count(3) + x.count(4), 0);
                }
            }
        }
        for (int seed : SEEDS) {
            Bounds.same(Bounds::fresh, "year(" + seed + ", 40) of nothing", 0, x -> x.year(seed, 40));
        }
    }

    private static void yearRefused() {
        Bounds.says(18, "-3: how many times.");
        int[] wrong = {0, 41, -1, 42, Bounds.MAX, Bounds.MIN};
        for (int seed : new int[] {0, 1, -1, Bounds.MAX, Bounds.MIN}) {
            Bounds.sameEach(Bounds::busy, "year of seed " + seed, -3, (x, times) -> x.year(seed, times), wrong);
            Bounds.sameEach(Bounds::fresh, "year of seed " + seed, -3, (x, times) -> x.year(seed, times), wrong);
        }
        Bounds.holds("year(1, 1) can be", Bounds.square().year(1, 1) >= 0);
        Bounds.holds("year(1, 40) can be", Bounds.square().year(1, 40) > 0);
    }

    /** Seeds whose first draw is of each sort and of the most and the least of it. */
    private static void drawn() {
        terms("A YEAR by a SEED (x, an int; a DRAW: x becomes 1103515245 x + 12345, it is x >>> 16): so many times (1 to 40): "
                + "DRAW modulo 5: 0, 1 the DEED 200 and DRAW modulo 12; 2 the DEED 300 and DRAW modulo 12; "
                + "3 the DEED 100 and DRAW modulo 10; 4 the DEED 110 and DRAW modulo 10; as in a TRAY, if it can be.");
        boolean[][] seen = new boolean[5][12];
        int left = 12 * 3 + 10 * 2;
        for (int seed = -3000; seed < 3000 && left > 0; seed++) {
            int[] s = {seed};
            int sort = DeedsTest.draw(s) % 5;
            int which = DeedsTest.draw(s) % (sort < 3 ? 12 : 10);
            if (!seen[sort][which]) {
                seen[sort][which] = true;
                left--;
                firstDeed(seed, sort, which);
            }
        }
        Bounds.due("deeds that no seed draws first", left, 0);
        SpareRings x = Bounds.told(Bounds.full(5, 1, 2) + "may:rate<5;");
        Bounds.holds("some could be", x.year(5, 40) > 0);
        Bounds.due("no year changes the rate", x.count(2), 0);
    }

    private static void firstDeed(int seed, int sort, int which) {
        SpareRings x = Bounds.told(Bounds.full(5, 1, 1));
        String what = " by seed " + seed + ", draws " + sort + ", " + which;
        if (sort == 2) {
            x.lay(which);
        } else if (sort == 4) {
            x.fail(which);
        }
        Bounds.due("year" + what, x.year(seed, 1), 1);
        Bounds.due("copies" + what, x.count(3), sort < 2 ? 1 : 0);
        Bounds.due("the ring's" + what, x.ring(which, 5), sort < 2 ? 1 : 0);
        Bounds.due("failed" + what, x.count(4), sort == 3 ? 1 << which : 0);
        SpareRings y = new SpareRings();
        Bounds.due("year of nothing" + what, y.year(seed, 1), 0);
    }
}
