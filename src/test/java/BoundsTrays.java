import java.util.Arrays;

/** Boundary cases of promises 42, 43 and 45 to 47 and of refused calls: trays, images, counts. */
final class BoundsTrays {
    private static final int[] NO_TRAYS = {4, -1, 32, 64, Bounds.MAX, Bounds.MIN};

    private BoundsTrays() {
    }

    static void all() {
        traysAre();
        numbers();
        numbersInPlace();
        numbersNone();
        numbersRefused();
        writeCuts();
        writeNone();
        imagesAre();
        image();
        restore();
        restoreRefused();
        counts();
        countsOfMost();
        countNone();
        refusedChangeNothing();
        ofSeveral();
        aheadOfNone();
    }

    // ---- trays

    private static void traysAre() {
        Bounds.says(Bounds.TERMS, "TRAYS 0 to 3 are MISSING at first, or have 0 to 40 numbers of 8 bits (sort 0), 16 (1), 32 (2), 64 (3).");
        for (int tray = 0; tray < 4; tray++) {
            int t = tray;
            Bounds.same(Bounds::fresh, "write(" + tray + ", 0, 1) at first", -6, x -> x.write(t, 0, 1));
            Bounds.same(Bounds::fresh, "judge(" + tray + ", 0) at first", -6, x -> x.judge(t, 0));
            for (int sort = 0; sort < 4; sort++) {
                for (int n : new int[] {0, 1, 39, 40}) {
                    SpareRings x = new SpareRings();
                    Bounds.due("numbers(" + tray + ", " + sort + ", " + n + ")", x.numbers(tray, sort, n), 0);
                    Bounds.due("the last one", x.write(tray, n - 1, 5), n == 0 ? -7 : 5);
                    Bounds.due("none behind it", x.write(tray, n, 5), -7);
                    long wide = 0x7EDCBA9876543210L;
                    long cut = sort == 0 ? 0x10 : sort == 1 ? 0x3210 : sort == 2 ? 0x76543210 : wide;
                    Bounds.due("a wide number", n == 0 ? cut : x.write(tray, 0, wide), cut);
                    for (int other = 0; other < 4; other++) {
                        Bounds.due("the others are missing", x.write(other, n, 0), other == tray ? -7 : -6);
                    }
                }
            }
        }
    }

    private static void numbers() {
        Bounds.says(42, "A TRAY has n numbers of a sort, all 0 (in place of another one): 0.");
        for (int n = 0; n <= 40; n++) {
            for (int sort = 0; sort < 4; sort++) {
                SpareRings x = Bounds.square();
                Bounds.due("numbers(2, " + sort + ", " + n + ")", x.numbers(2, sort, n), 0);
                // 0 is no deed, so each number but the first 0 is made one.
                for (int i = 0; i < n; i++) {
                    Bounds.due("number " + i + " is 0", x.judge(2, 0), i);
                    Bounds.due("why", x.judge(2, 1), 1);
                    x.write(2, i, i % 2 == 0 ? 104 : 114);
                }
                Bounds.due("none is left", x.judge(2, 0), -1);
            }
        }
        SpareRings x = Bounds.square();
        Bounds.fill(x, 0, 0, 1);
        Bounds.due("no call to be undone", x.count(6), 0);
    }

    private static void numbersInPlace() {
        Bounds.says(42, "(in place of another one)");
        for (int sort = 0; sort < 4; sort++) {
            for (int n : new int[] {0, 1, 3, 40}) {
                SpareRings x = Bounds.square();
                long[] deeds = new long[40];
                Arrays.fill(deeds, 11);
                Bounds.fill(x, 1, 3, deeds);
                Bounds.due("forty deeds", x.judge(1, 0), -1);
                Bounds.due("numbers(1, " + sort + ", " + n + ")", x.numbers(1, sort, n), 0);
                Bounds.due("all are 0", x.judge(1, 0), n == 0 ? -1 : 0);
                Bounds.due("as many as told", x.write(1, n, 11), -7);
                Bounds.due("of the sort told", n == 0 ? -1 : x.write(1, 0, Long.MAX_VALUE), sort < 3 || n == 0 ? -1 : Long.MAX_VALUE);
                Bounds.due("numbers(1, 3, 40) again", x.numbers(1, 3, 40), 0);
                for (int i = 0; i < 40; i++) {
                    Bounds.due("number " + i + " is 0", x.judge(1, 0), i);
                    x.write(1, i, 11);
                }
            }
        }
    }

    private static void numbersNone() {
        Bounds.says(42, "-2: no such TRAY, sort;");
        for (int n : new int[] {-1, 0, 1, 40, 41, Bounds.MAX, Bounds.MIN}) {
            for (int sort = -1; sort <= 4; sort++) {
                int s = sort;
                Bounds.sameEach(Bounds::busy, "numbers of tray, sort " + sort + ", " + n, -2, (x, t) -> x.numbers(t, s, n), NO_TRAYS);
            }
            Bounds.sameEach(Bounds::busy, "numbers(0, sort, " + n + ")", -2, (x, sort) -> x.numbers(0, sort, n), 4, -1, 32, Bounds.MAX, Bounds.MIN);
            Bounds.sameEach(Bounds::fresh, "numbers(3, sort, " + n + ")", -2, (x, sort) -> x.numbers(3, sort, n), 4, -1, 32, Bounds.MAX, Bounds.MIN);
        }
    }

    private static void numbersRefused() {
        Bounds.says(42, "-3, and the TRAY stays: n is below 0 or above 40.");
        for (int tray = 0; tray < 4; tray++) {
            for (int sort = 0; sort < 4; sort++) {
                int t = tray;
                int s = sort;
                int[] wrong = {41, -1, 42, 64, Bounds.MAX, Bounds.MIN};
                Bounds.sameEach(Bounds::busy, "numbers(" + tray + ", " + sort + ", n)", -3, (x, n) -> x.numbers(t, s, n), wrong);
                Bounds.sameEach(Bounds::fresh, "numbers(" + tray + ", " + sort + ", n)", -3, (x, n) -> x.numbers(t, s, n), wrong);
            }
        }
        SpareRings x = Bounds.square();
        Bounds.fill(x, 1, 2, 200, 104, 9);
        Bounds.due("numbers(1, 0, 41)", x.numbers(1, 0, 41), -3);
        Bounds.due("its deeds stay", x.judge(1, 0), 2);
        Bounds.due("its last one is there", x.write(1, 2, 1 << 20), 1 << 20);
        Bounds.due("none behind it", x.write(1, 3, 0), -7);
    }

    private static void writeCuts() {
        Bounds.says(43, "Number i of a TRAY is v, cut to its sort: as it is there.");
        for (int sort = 0; sort < 4; sort++) {
            int bits = 8 << sort;
            SpareRings x = new SpareRings();
            x.numbers(0, sort, 2);
            long most = Long.MAX_VALUE >>> 64 - bits;
            long least = -most - 1;
            cuts(x, sort, 0, 0);
            cuts(x, sort, 1, 1);
            cuts(x, sort, -1, -1);
            cuts(x, sort, most, most);
            cuts(x, sort, most - 1, most - 1);
            cuts(x, sort, least, least);
            cuts(x, sort, least + 1, least + 1);
            cuts(x, sort, most + 1, least);
            cuts(x, sort, least - 1, most);
            cuts(x, sort, Long.MAX_VALUE, sort == 3 ? Long.MAX_VALUE : -1);
            cuts(x, sort, Long.MIN_VALUE, sort == 3 ? Long.MIN_VALUE : 0);
            if (sort < 3) {
                cuts(x, sort, 1L << bits, 0);
                cuts(x, sort, (1L << bits) - 1, -1);
                cuts(x, sort, (1L << bits) + 7, 7);
                cuts(x, sort, -(1L << bits), 0);
                cuts(x, sort, 1L << 63 | 5, 5);
            }
        }
        writesEach();
    }

    private static void cuts(SpareRings x, int sort, long told, long there) {
        for (int i = 0; i < 2; i++) {
            Bounds.due("write of " + told + " to sort " + sort, x.write(0, i, told), there);
        }
    }

    private static void writesEach() {
        SpareRings x = Bounds.square();
        Bounds.fill(x, 0, 1, 200, 201, 202);
        Bounds.due("write(0, 1, 9)", x.write(0, 1, 9), 9);
        Bounds.due("number 1 alone is another", x.judge(0, 0), 1);
        x.write(0, 1, 65536 + 201);
        Bounds.due("cut to a deed", x.judge(0, 0), -1);
        Bounds.due("perform(0)", x.perform(0), 3);
        SpareRings bytes = Bounds.square();
        Bounds.fill(bytes, 0, 0, 100);
        Bounds.due("200 is no deed in a byte", bytes.write(0, 0, 200), -56);
        Bounds.due("judge(0, 1)", bytes.judge(0, 1), 1);
        Bounds.due("356 is link 0's", bytes.write(0, 0, 356), 100);
        Bounds.due("judge(0, 3)", bytes.judge(0, 3), 1);
    }

    private static void writeNone() {
        Bounds.says(43, "-2: no such TRAY; -6; -7.");
        for (int i : new int[] {-1, 0, 40, Bounds.MAX, Bounds.MIN}) {
            Bounds.sameEach(Bounds::busy, "write to tray, place " + i, -2, (x, t) -> x.write(t, i, 1), NO_TRAYS);
            Bounds.same(Bounds::busy, "write to a missing tray, place " + i, -6, x -> x.write(3, i, 1));
            Bounds.sameEach(Bounds::fresh, "write to a missing tray, place " + i, -6, (x, t) -> x.write(t, i, 1), 0, 1, 2, 3);
        }
        Bounds.sameEach(Bounds::busy, "write to six", -7, (x, i) -> x.write(0, i, 1), 6, -1, 7, 40, 64, Bounds.MAX, Bounds.MIN);
        Bounds.sameEach(Bounds::busy, "write to two", -7, (x, i) -> x.write(1, i, 1), 2, -1, 3, 40, Bounds.MAX, Bounds.MIN);
        Bounds.sameEach(Bounds::busy, "write to none", -7, (x, i) -> x.write(2, i, 1), 0, -1, 1, 40, Bounds.MAX, Bounds.MIN);
        SpareRings x = new SpareRings();
        x.numbers(0, 3, 40);
        Bounds.due("write(0, 39, 7)", x.write(0, 39, 7), 7);
        Bounds.due("write(0, 40, 7)", x.write(0, 40, 7), -7);
        Bounds.due("write(0, 0, 7)", x.write(0, 0, 7), 7);
        Bounds.due("write(0, -1, 7)", x.write(0, -1, 7), -7);
    }

    // ---- images

    private static void imagesAre() {
        Bounds.says(Bounds.TERMS, "IMAGES 0 to 1: THE NET and what a call could bring back by UNDOING; nothing can be UNDONE behind (none at first).");
        Bounds.sameEach(Bounds::fresh, "restore at first", -5, (x, i) -> x.restore(i), 0, 1);
        SpareRings x = Bounds.told(Bounds.SQUARE + "may:links=3 or rate<5;");
        x.lay(0);
        x.lay(2);
        x.fail(4);
        x.rate(2);
        Bounds.due("image(0)", x.image(0), 0);
        Bounds.tell(x, Bounds.full(5, 1, 1));
        x.lay(36);
        x.fail(9);
        x.rate(9);
        Bounds.due("image(1)", x.image(1), 0);
        Bounds.due("restore(0)", x.restore(0), 0);
        squareIs(x);
        Bounds.due("restore(1)", x.restore(1), 0);
        Bounds.due("links", x.count(1), 10);
        Bounds.due("rate", x.count(2), 9);
        Bounds.due("copies of ring 36", x.ring(36, 5), 1);
        Bounds.due("failed", x.count(4), 512);
        Bounds.due("where its unit runs", x.runs(9, 0, 0), 36);
        Bounds.due("nothing can be undone", x.count(6), 0);
        Bounds.due("restore(0) again", x.restore(0), 0);
        squareIs(x);
        x.mend(4);
        x.take(0);
        Bounds.due("restore(0) a third time", x.restore(0), 0);
        squareIs(x);
    }

    private static void squareIs(SpareRings x) {
        int[] counts = {4, 5, 2, 2, 16, 5, 0, 0, 7};
        for (int what = 0; what < counts.length; what++) {
            Bounds.due("count(" + what + ")", x.count(what), counts[what]);
        }
        Bounds.due("rings", x.rings(), 3);
        Bounds.due("copies of ring 0", x.ring(0, 5), 1);
        Bounds.due("copies of ring 2", x.ring(2, 5), 1);
        Bounds.due("unit 0 of link 4", x.runs(4, 0, 2), 3);
        Bounds.due("unit 1 of link 4", x.runs(4, 1, 2), 12);
        Bounds.due("undo(1)", x.undo(1), -3);
        Bounds.due("the law, too: rate(5)", x.rate(5), 2);
        Bounds.due("which can be undone", x.undo(1), 0);
    }

    private static void image() {
        Bounds.says(45, "An IMAGE is made: 0. -2.");
        int[] none = {2, -1, 3, 32, Bounds.MAX, Bounds.MIN};
        Bounds.sameEach(Bounds::busy, "image", -2, (x, i) -> x.image(i), none);
        Bounds.sameEach(Bounds::fresh, "image", -2, (x, i) -> x.image(i), none);
        for (int i = 0; i < 2; i++) {
            SpareRings x = new SpareRings();
            Bounds.due("image(" + i + ") of a new object", x.image(i), 0);
            Bounds.due("the other one isn't made", x.restore(1 - i), -5);
            Bounds.due("restore(" + i + ")", x.restore(i), 0);
            SpareRings y = Bounds.square();
            y.lay(0);
            y.lay(0);
            Bounds.due("image(" + i + ")", y.image(i), 0);
            Bounds.due("what could be undone still can", y.count(6), 2);
            Bounds.due("undo(1)", y.undo(1), 1);
            Bounds.due("image(" + i + ") in place of the other one", y.image(i), 0);
            y.lay(1);
            Bounds.due("restore(" + i + ")", y.restore(i), 0);
            Bounds.due("copies", y.count(3), 1);
        }
    }

    private static void restore() {
        Bounds.says(46, "All that is in an IMAGE is as it was: 0.");
        SpareRings x = Bounds.busy();
        Bounds.due("count(6)", x.count(6), 6);
        Bounds.due("restore(0)", x.restore(0), 0);
        int[] counts = {4, 5, 1, 2, 16, 5, 0, 20, 8};
        for (int what = 0; what < counts.length; what++) {
            Bounds.due("count(" + what + ")", x.count(what), counts[what]);
        }
        Bounds.due("a fault isn't in it", x.fault(0), 3);
        Bounds.due("nor is the tape", x.net(20), 1);
        Bounds.due("nor are trays", x.write(0, 5, 3), 3);
        Bounds.due("a tray that is missing", x.write(3, 0, 3), -6);
        Bounds.due("restore(0) behind a net", x.restore(0), 0);
        Bounds.due("the image's links", x.count(1), 5);
        SpareRings y = Bounds.busy();
        y.image(1);
        y.undo(3);
        Bounds.due("restore(1)", y.restore(1), 0);
        Bounds.due("rate", y.count(2), 3);
        Bounds.due("failed", y.count(4), 17);
        Bounds.due("nothing can be undone", y.undo(1), -3);
        Bounds.due("cost()", y.cost(), 22 + 16 + 16);
        SpareRings empty = new SpareRings();
        empty.image(0);
        Bounds.tell(empty, Bounds.SQUARE);
        empty.lay(0);
        Bounds.due("restore(0) of nothing", empty.restore(0), 0);
        Bounds.due("no links", empty.count(1), 0);
        Bounds.due("no lines", empty.count(8), 0);
        Bounds.due("lay(0)", empty.lay(0), -11);
    }

    private static void restoreRefused() {
        Bounds.says(46, "-2; -5: none was made.");
        int[] none = {2, -1, 3, 32, Bounds.MAX, Bounds.MIN};
        Bounds.sameEach(Bounds::busy, "restore", -2, (x, i) -> x.restore(i), none);
        Bounds.sameEach(Bounds::fresh, "restore", -2, (x, i) -> x.restore(i), none);
        Bounds.same(Bounds::busy, "restore of one that wasn't made", -5, x -> x.restore(1));
        Bounds.same(Bounds::broken, "restore of one that wasn't made", -5, x -> x.restore(0));
        Bounds.due("restore(1) of one that was", Bounds.broken().restore(1), 0);
        Bounds.due("restore(0) of one that was", Bounds.busy().restore(0), 0);
    }

    // ---- counts

    private static void counts() {
        Bounds.says(47, "0 NODES, 1 LINKS, 2 RATE, 3 COPIES, 4 LINKS that have failed, as bits, 5 all WORK added, 6 calls that can be UNDONE, "
                + "7 bytes on THE TAPE, 8 LINES.");
        int[] busy = {4, 5, 3, 3, 17, 5, 6, 20, 8};
        int[] broken = {4, 5, 1, 9, 31, 5, 10, 0, 6};
        int[] fresh = {1, 0, 0, 0, 0, 0, 0, 0, 0};
        for (int what = 0; what < 9; what++) {
            int w = what;
            Bounds.same(Bounds::busy, "count(" + what + ")", busy[what], x -> x.count(w));
            Bounds.same(Bounds::broken, "count(" + what + ")", broken[what], x -> x.count(w));
            Bounds.same(Bounds::fresh, "count(" + what + ")", fresh[what], x -> x.count(w));
        }
    }

    private static void countsOfMost() {
        Bounds.says(47, "0 NODES, 1 LINKS");
        Bounds.due("count(0)", Bounds.told("net nodes 8 rate 0;").count(0), 8);
        SpareRings x = Bounds.told(Bounds.full(5, 1, 2).replace("rate 0", "rate 9"));
        for (int r = 0; r < 37; r++) {
            for (int n = 0; n < 9; n++) {
                x.lay(r);
            }
        }
        for (int l = 0; l < 10; l++) {
            x.fail(l);
        }
        for (int i = 0; i < 45; i++) {
            x.feed(0, 0, 0, 0, 0);
        }
        int[] most = {5, 10, 9, 333, 1023, 20, 10, 900, 11};
        for (int what = 0; what < 9; what++) {
            Bounds.due("count(" + what + ")", x.count(what), most[what]);
        }
        x.mend(0);
        Bounds.due("count(4) but one", x.count(4), 1022);
    }

    private static void countNone() {
        Bounds.says(47, "NONE for others.");
        int[] others = {9, -1, 10, 32, 40, Bounds.MAX, Bounds.MIN};
        Bounds.sameEach(Bounds::busy, "count", -1, (x, what) -> x.count(what), others);
        Bounds.sameEach(Bounds::fresh, "count", -1, (x, what) -> x.count(what), others);
    }

    // ---- refused calls

    private static void refusedChangeNothing() {
        Bounds.says(Bounds.TERMS, "Refused calls answer by a code and change nothing: -2 there is none such; -3 a number can't be; -4 too many; "
                + "-5 it can't be now; -6 a TRAY is MISSING; -7 it has no such number; -11, -12 why not (1, 2); -30 less the FAULT: a text.");
        SpareRings x = Bounds.busy();
        long[] answers = {x.feed(0, 0, 0, 0, 0) - 40, x.net(41), x.link(5, 0), x.ring(3, 0), x.use(3, 0), x.path(0, 0, -1), x.lay(3), x.take(3),
            x.fail(5), x.fail(0), x.mend(1), x.rate(10), x.undo(7), x.judge(3, 0), x.perform(3), x.year(1, 0), x.yet(2, 0), x.among(0, 3),
            x.bound(2), x.covers(4), x.runs(4, 2, 0), x.ifFails(0), x.two(1, 1), x.twos(3), x.cut(0, 4, 0), x.rates(2), x.ask(3),
            x.chance(4, 0), x.mean(4, 0), x.numbers(0, 0, 41), x.write(0, 6, 1), x.lists(3, 0), x.image(2), x.restore(1)};
        long[] codes = {0, -3, -2, -2, -2, -3, -11, -11, -11, -12, -12, -11, -3, -6, -6, -3, -2, -2, -2, -3, -2, -5, -2, -2, -2, -4, -6, -3, -3, -3,
            -7, -6, -2, -5};
        for (int i = 0; i < codes.length; i++) {
            Bounds.due("call " + i, answers[i], codes[i]);
        }
        SpareRings y = Bounds.busy();
        y.feed(0, 0, 0, 0, 0);
        Check.alike("all stays behind all of them", Bounds.look(x), Bounds.look(y));
    }

    private static void ofSeveral() {
        Bounds.says(Bounds.TERMS, "(Of several that which the call tells first; all these ahead of NONE.)");
        Bounds.same(Bounds::busy, "path(3, 0, -1)", -2, x -> x.path(3, 0, -1));
        Bounds.same(Bounds::busy, "path(0, 5, -1)", -2, x -> x.path(0, 5, -1));
        Bounds.same(Bounds::busy, "judge(3, 4)", -2, x -> x.judge(3, 4));
        Bounds.same(Bounds::busy, "judge(4, 4)", -2, x -> x.judge(4, 4));
        Bounds.same(Bounds::busy, "rates of an empty tray", -4, x -> x.rates(2));
        Bounds.same(Bounds::busy, "chance(4, 2)", -2, x -> x.chance(4, 2));
        Bounds.same(Bounds::busy, "mean(-1, -1)", -2, x -> x.mean(-1, -1));
        Bounds.same(Bounds::busy, "numbers(4, 4, 41)", -2, x -> x.numbers(4, 4, 41));
        Bounds.same(Bounds::busy, "numbers(0, 4, 41)", -2, x -> x.numbers(0, 4, 41));
        Bounds.same(Bounds::busy, "numbers(4, 0, 41)", -2, x -> x.numbers(4, 0, 41));
        Bounds.same(Bounds::busy, "write(4, 41, 1)", -2, x -> x.write(4, 41, 1));
        Bounds.same(Bounds::busy, "write(3, 41, 1)", -6, x -> x.write(3, 41, 1));
        Bounds.same(Bounds::busy, "lists(3, 2)", -2, x -> x.lists(3, 2));
        SpareRings bare = Bounds.told(Bounds.SQUARE + "may:1=2;");
        Bounds.due("lists(0, 0) into a missing tray, it can't be", bare.lists(0, 0), -6);
        bare.numbers(0, 0, 9);
        Bounds.due("lists(0, 0), it can't be", bare.lists(0, 0), -5);
        Bounds.due("rates(0) of nine numbers that aren't prices", bare.rates(0), -4);
    }

    private static void aheadOfNone() {
        Bounds.says(Bounds.TERMS, "all these ahead of NONE.)");
        Bounds.same(Bounds::busy, "cut(4, 4, 0)", -2, x -> x.cut(4, 4, 0));
        Bounds.same(Bounds::busy, "cut(0, 0, 2)", -2, x -> x.cut(0, 0, 2));
        Bounds.same(Bounds::busy, "cut(0, 0, 1)", -1, x -> x.cut(0, 0, 1));
        Bounds.same(Bounds::busy, "path(1, 2, -1)", -3, x -> x.path(1, 2, -1));
        Bounds.same(Bounds::busy, "path(1, 2, 0)", -1, x -> x.path(1, 2, 0));
        Bounds.same(Bounds::square, "runs(4, 2, 0)", -2, x -> x.runs(4, 2, 0));
        Bounds.same(Bounds::square, "runs(4, 1, 3)", -2, x -> x.runs(4, 1, 3));
        Bounds.same(Bounds::square, "runs(4, 1, 2)", -1, x -> x.runs(4, 1, 2));
        Bounds.same(Bounds::fresh, "twos(3)", -2, x -> x.twos(3));
        Bounds.same(Bounds::fresh, "twos(2)", -1, x -> x.twos(2));
        SpareRings x = Bounds.told(Bounds.SQUARE + "may:1=2;");
        Bounds.due("yet(0, 2)", x.yet(0, 2), -2);
        Bounds.due("yet(2, 0)", x.yet(2, 0), -2);
        Bounds.due("yet(0, 0)", x.yet(0, 0), -1);
        Bounds.due("among(0, 0)", x.among(0, 0), -2);
        Bounds.due("bound(2)", x.bound(2), -2);
        Bounds.due("bound(0)", x.bound(0), -1);
        x.numbers(0, 0, 1);
        Bounds.due("ask(0) without rings", x.ask(0), -3);
    }
}
