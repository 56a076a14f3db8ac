/** Boundary cases of promises 5 to 9, 25 and 34 to 37: links, rings, paths, what the net is by itself. */
final class BoundsRings {
    private BoundsRings() {
    }

    static void all() {
        threeLinks();
        chords();
        numbersOfRings();
        costOfLinks();
        copies();
        uses();
        covered();
        pathsOfCopies();
        link();
        linkWhat();
        ring();
        ringOf();
        use();
        path();
        best();
        rings();
        bare();
        bridges();
        cut();
        cutRefused();
    }

    private static void terms(String sentence) {
        Bounds.says(Bounds.TERMS, sentence);
    }

    private static int ringsOf(String net) {
        return Bounds.told(net).rings();
    }

    private static void threeLinks() {
        terms("A RING: three LINKS and more, one behind the other, back to where it began, no NODE met twice.");
        String two = "net nodes 3 rate 0;" + Bounds.link(0, 1, 1, 1) + Bounds.link(1, 2, 1, 1);
        Bounds.due("rings of two links", ringsOf(two), 0);
        Bounds.due("rings of three", ringsOf(two + Bounds.link(2, 0, 1, 1)), 1);
        Bounds.due("three from one node", ringsOf("net nodes 4 rate 0;" + Bounds.link(0, 1, 1, 1) + Bounds.link(0, 2, 1, 1)
                + Bounds.link(0, 3, 1, 1)), 0);
        for (int n = 3; n <= 8; n++) {
            SpareRings x = Bounds.told(Bounds.around(n, 1, 1));
            Bounds.due("rings around " + n + " nodes", x.rings(), 1);
            Bounds.due("its links", x.ring(0, 0), (1 << n) - 1);
            Bounds.due("its nodes", x.ring(0, 1), (1 << n) - 1);
            String open = Bounds.around(n, 1, 1);
            Bounds.due("rings without its last link", ringsOf(open.substring(0, open.lastIndexOf("link"))), 0);
        }
        // Node 2 is met twice by all six links; two rings apart are no ring together.
        String first = "net nodes 6 rate 0;" + Bounds.link(0, 1, 1, 1) + Bounds.link(1, 2, 1, 1) + Bounds.link(2, 0, 1, 1);
        SpareRings eight = Bounds.told(first + Bounds.link(2, 3, 1, 1) + Bounds.link(3, 4, 1, 1) + Bounds.link(4, 2, 1, 1));
        Bounds.due("two that meet in a node", eight.rings(), 2);
        Bounds.due("ringOf both", eight.ringOf(63), -1);
        SpareRings apart = Bounds.told(first + Bounds.link(3, 4, 1, 1) + Bounds.link(4, 5, 1, 1) + Bounds.link(5, 3, 1, 1));
        Bounds.due("two apart", apart.rings(), 2);
        Bounds.due("ringOf both", apart.ringOf(63), -1);
        SpareRings tail = Bounds.told(first + Bounds.link(2, 3, 1, 1));
        Bounds.due("a ring with a tail", tail.rings(), 1);
        Bounds.due("ringOf both", tail.ringOf(15), -1);
    }

    private static void chords() {
        terms("A LINK is ON it, or a CHORD of it (both its ends are on the RING, it isn't), or neither.");
        // A ring of nodes 0 1 2 3, chord 0 2; 3 4 has one end on it, 4 5 none.
        SpareRings x = Bounds.told("net nodes 6 rate 0;" + Bounds.link(0, 1, 1, 1) + Bounds.link(1, 2, 1, 1) + Bounds.link(2, 3, 1, 1)
                + Bounds.link(3, 0, 1, 1) + Bounds.link(2, 0, 1, 1) + Bounds.link(3, 4, 1, 1) + Bounds.link(5, 4, 1, 1));
        int r = x.ringOf(15);
        int[] uses = {1, 1, 1, 1, 2, 0, 0};
        for (int l = 0; l < uses.length; l++) {
            Bounds.due("use of link " + l, x.use(r, l), uses[l]);
        }
        Bounds.due("its chords", x.ring(r, 2), 16);
        Bounds.due("its uses", x.ring(r, 4), 6);
        Bounds.due("chords of a triangle", x.ring(x.ringOf(19), 2), 0);
        Bounds.due("uses of a triangle", x.ring(x.ringOf(19), 4), 3);
        SpareRings most = Bounds.told(Bounds.full(5, 1, 1));
        int around = most.ringOf(1 | 1 << 4 | 1 << 7 | 1 << 9 | 1 << 3);
        Bounds.due("chords of a ring of five", Integer.bitCount(most.ring(around, 2)), 5);
        Bounds.due("its uses", most.ring(around, 4), 15);
        Bounds.due("on it or a chord", most.ring(around, 0) ^ most.ring(around, 2), 1023);
    }

    private static void numbersOfRings() {
        terms("RINGS are numbered from 0 on by their LINKS as bits (LINK l counts 2 to the l-th), the lesser ahead; "
                + "only those that MAY be: by the law may (without one: all).");
        SpareRings x = Bounds.told(Bounds.full(5, 1, 1));
        Bounds.due("rings without a law", x.rings(), 37);
        for (int r = 0; r < 37; r++) {
            Bounds.holds("ring " + r + " behind the one ahead", x.ring(r, 0) > (r == 0 ? 0 : x.ring(r - 1, 0)));
            Bounds.due("ringOf of ring " + r, x.ringOf(x.ring(r, 0)), r);
        }
        Bounds.due("the first one's links", x.ring(0, 0), 1 | 2 | 1 << 4);
        Bounds.due("the last one's links", x.ring(36, 0), 1 << 7 | 1 << 8 | 1 << 9);
        Bounds.due("ring(37, 0)", x.ring(37, 0), -2);
        Bounds.due("rings that all may", ringsOf(Bounds.full(5, 1, 1) + "may:1=1;"), 37);
        Bounds.due("rings none of which may", ringsOf(Bounds.full(5, 1, 1) + "may:1=2;"), 0);
        SpareRings some = Bounds.told(Bounds.full(5, 1, 1) + "may:links=5;");
        Bounds.due("rings of five links", some.rings(), 12);
        Bounds.due("ringOf one that may not", some.ringOf(x.ring(36, 0)), -1);
        for (int r = 0; r < 12; r++) {
            Bounds.due("links on ring " + r, Integer.bitCount(some.ring(r, 0)), 5);
            Bounds.due("ringOf of ring " + r, some.ringOf(some.ring(r, 0)), r);
        }
        SpareRings last = Bounds.told(Bounds.SQUARE + "may:links=3 and work=3;");
        Bounds.due("the last one alone is ring 0", last.ring(0, 0), 28);
        Bounds.due("ring(1, 0)", last.ring(1, 0), -2);
    }

    private static void costOfLinks() {
        terms("Its COST: what the law costs tells of each LINK ON it (1 at least, 99 at most; without one: how long it is), added.");
        String net = "net nodes 3 rate 0;" + Bounds.link(0, 1, 1, 0) + Bounds.link(1, 2, 5, 0) + Bounds.link(2, 0, 9, 0);
        Bounds.due("without a law", Bounds.told(net).ring(0, 3), 15);
        int[][] each = {{0, 1}, {1, 1}, {2, 2}, {98, 98}, {99, 99}, {100, 99}, {999, 99}};
        for (int[] e : each) {
            Bounds.due("by costs:" + e[0], Bounds.told(net + "costs:" + e[0] + ";").ring(0, 3), 3 * e[1]);
            Bounds.due("by costs:0-" + e[0], Bounds.told(net + "costs:0-" + e[0] + ";").ring(0, 3), 3);
        }
        Bounds.due("one below 1", Bounds.told(net + "costs:long-2;").ring(0, 3), 1 + 3 + 7);
        Bounds.due("one above 99", Bounds.told(net + "costs:long*12-7;").ring(0, 3), 5 + 53 + 99);
        Bounds.due("none above 99", Bounds.told(net + "costs:long*11;").ring(0, 3), 11 + 55 + 99);
        Bounds.due("by 999*999*999", Bounds.told(net + "costs:999*999*999;").ring(0, 3), 297);
        Bounds.due("by 0-999*999*999", Bounds.told(net + "costs:0-999*999*999;").ring(0, 3), 3);
        Bounds.due("eight links of 99", Bounds.told(Bounds.around(8, 9, 0) + "costs:99;").ring(0, 3), 792);
        Bounds.due("eight links of 1", Bounds.told(Bounds.around(8, 9, 0) + "costs:1;").ring(0, 3), 8);
    }

    private static void copies() {
        terms("Of each RING so many COPIES are laid, 0 to 9 (0 at first).");
        SpareRings x = Bounds.square();
        for (int r = 0; r < 3; r++) {
            Bounds.due("ring(" + r + ", 5)", x.ring(r, 5), 0);
            for (int n = 1; n <= 9; n++) {
                Bounds.due("lay(" + r + ")", x.lay(r), n);
                Bounds.due("ring(" + r + ", 5)", x.ring(r, 5), n);
            }
            Bounds.due("the tenth", x.lay(r), -12);
            Bounds.due("ring(" + r + ", 5)", x.ring(r, 5), 9);
        }
        Bounds.due("all copies", x.count(3), 27);
        for (int n = 8; n >= 0; n--) {
            Bounds.due("take(1)", x.take(1), n);
        }
        Bounds.due("one more", x.take(1), -12);
        Bounds.due("ring(1, 5)", x.ring(1, 5), 0);
        Bounds.due("ring(0, 5)", x.ring(0, 5), 9);
    }

    private static void uses() {
        terms("USE of a RING for a LINK: 1 if it is ON it, 2 if it is a CHORD, else 0.");
        int[][] uses = {{1, 1, 1, 1, 2}, {1, 1, 0, 0, 1}, {0, 0, 1, 1, 1}};
        SpareRings x = Bounds.square();
        for (int r = 0; r < 3; r++) {
            for (int l = 0; l < 5; l++) {
                Bounds.due("use(" + r + ", " + l + ")", x.use(r, l), uses[r][l]);
            }
        }
        x.fail(0);
        x.lay(0);
        Bounds.due("use of a failed link", x.use(0, 0), 1);
        Bounds.due("use of a chord, copies laid", x.use(0, 4), 2);
    }

    private static void covered() {
        terms("A LINK is COVERED, if USES of all COPIES for it, added, are no less than its WORK. A COVER: COPIES by which each LINK is.");
        for (int work = 0; work <= 2; work++) {
            SpareRings x = Bounds.told("net nodes 3 rate 0;" + Bounds.link(0, 1, 1, 0) + Bounds.link(1, 2, 1, 0) + Bounds.link(2, 0, 1, work));
            for (int laid = 0; laid <= 3; laid++) {
                Bounds.due("work " + work + ", uses " + laid, x.isCover(), laid >= work ? 1 : 0);
                x.lay(0);
            }
        }
        // A chord of work 2 is covered by one copy, by two copies of triangles on which it is.
        SpareRings chord = Bounds.square();
        chord.lay(0);
        Bounds.due("uses 2 of work 2", chord.isCover(), 1);
        SpareRings each = Bounds.square();
        each.lay(1);
        Bounds.due("links 2 and 4 lack one", each.isCover(), 0);
        each.lay(2);
        Bounds.due("uses 1 and 1 of work 2", each.isCover(), 1);
        each.take(1);
        Bounds.due("links 0, 1, 4 lack one", each.isCover(), 0);
    }

    private static void pathsOfCopies() {
        terms("A PATH of a COPY for a LINK: if it is ON it, all others ON it; of a CHORD the LINKS ON it of one side: "
                + "of two PATHS the one of the lesser bits is ahead.");
        SpareRings x = Bounds.told(Bounds.around(8, 1, 0) + Bounds.link(1, 0 + 3, 1, 0) + Bounds.link(6, 0, 1, 0));
        int r = x.ringOf(255);
        for (int l = 0; l < 8; l++) {
            Bounds.due("path(" + r + ", " + l + ", 0)", x.path(r, l, 0), 255 & ~(1 << l));
            Bounds.due("path(" + r + ", " + l + ", 1)", x.path(r, l, 1), -1);
        }
        // Link 8 joins 1 and 3: links 1, 2, or the rest; link 9 joins 6 and 0: links 6, 7, or the rest.
        Bounds.due("path of the lesser bits, a short side", x.path(r, 8, 0), 6);
        Bounds.due("path of the greater bits", x.path(r, 8, 1), 249);
        Bounds.due("path of the lesser bits, a long side", x.path(r, 9, 0), 63);
        Bounds.due("path of the greater bits, a short side", x.path(r, 9, 1), 192);
        Bounds.due("no third side", x.path(r, 9, 2), -1);
        int cut = x.ringOf(255 & ~6 | 256);
        Bounds.due("path of a link that the ring leaves out", x.path(cut, 1, 0), -1);
        Bounds.due("path of the one it takes", x.path(cut, 8, 0), 249);
    }

    private static final int[] NO_LINKS = {5, -1, 9, 10, 32, 36, 64, Bounds.MAX, Bounds.MIN};
    private static final int[] NO_RINGS = {3, -1, 36, 37, 40, 64, 65, Bounds.MAX, Bounds.MIN};

    private static void link() {
        Bounds.says(5, "Of a LINK, what 0, 1: its NODES, 2: how long, 3: its WORK, 4: 1 if it has failed, else 0, "
                + "5: USES of all COPIES for it, 6: how many of its units are LOST. -2.");
        int[][] links = {{0, 1, 2, 1, 0, 0, 0}, {1, 2, 3, 1, 0, 0, 0}, {2, 3, 1, 1, 0, 0, 0}, {3, 0, 4, 0, 0, 0, 0}, {0, 2, 2, 2, 0, 0, 0}};
        for (int l = 0; l < 5; l++) {
            for (int what = 0; what < 7; what++) {
                int a = l;
                int w = what;
                Bounds.same(Bounds::square, "link(" + l + ", " + what + ")", links[l][what], x -> x.link(a, w));
            }
        }
        for (int what = 0; what < 7; what++) {
            int w = what;
            Bounds.sameEach(Bounds::busy, "link what " + what, -2, (x, l) -> x.link(l, w), NO_LINKS);
            Bounds.sameEach(Bounds::fresh, "link what " + what, -2, (x, l) -> x.link(l, w), 0, -1, 1);
        }
        Bounds.sameEach(Bounds::busy, "link(0, what)", -2, (x, what) -> x.link(0, what), 7, -1, 32, 39, Bounds.MAX, Bounds.MIN);
        Bounds.sameEach(Bounds::busy, "link(4, what)", -2, (x, what) -> x.link(4, what), 7, -1);
        SpareRings ten = Bounds.told(Bounds.full(5, 4, 2));
        Bounds.due("link(9, 1)", ten.link(9, 1), 4);
        Bounds.due("link(10, 1)", ten.link(10, 1), -2);
    }

    private static void linkWhat() {
        Bounds.says(5, "4: 1 if it has failed, else 0, 5: USES of all COPIES for it, 6: how many of its units are LOST.");
        SpareRings x = Bounds.square();
        Bounds.due("fail(4)", x.fail(4), 2);
        Bounds.due("it has failed", x.link(4, 4), 1);
        Bounds.due("both its units are lost", x.link(4, 6), 2);
        Bounds.due("none of link 0's", x.link(0, 6), 0);
        x.lay(1);
        Bounds.due("its uses by one", x.link(4, 5), 1);
        Bounds.due("one unit is lost", x.link(4, 6), 1);
        x.lay(2);
        Bounds.due("none is", x.link(4, 6), 0);
        x.mend(4);
        Bounds.due("mended", x.link(4, 4), 0);
        Bounds.due("none is lost", x.link(4, 6), 0);
        for (int r = 0; r < 3; r++) {
            for (int n = x.ring(r, 5); n < 9; n++) {
                x.lay(r);
            }
        }
        Bounds.due("uses of nine copies each, a chord's twice", x.link(4, 5), 36);
        Bounds.due("uses of nine copies each, two rings", x.link(3, 5), 18);
        x.fail(3);
        Bounds.due("a failed link without work", x.link(3, 4), 1);
        Bounds.due("loses none", x.link(3, 6), 0);
        Bounds.due("uses of a failed link", x.link(3, 5), 18);
    }

    private static void ring() {
        Bounds.says(6, "Of a RING, what 0: LINKS ON it, as bits, 1: NODES on it, as bits, 2: CHORDS, as bits, 3: COST, "
                + "4: USES for all LINKS, added, 5: COPIES. -2.");
        int[][] rings = {{15, 15, 16, 10, 6, 0}, {19, 7, 0, 7, 3, 0}, {28, 13, 0, 7, 3, 0}};
        for (int r = 0; r < 3; r++) {
            for (int what = 0; what < 6; what++) {
                int a = r;
                int w = what;
                Bounds.same(Bounds::square, "ring(" + r + ", " + what + ")", rings[r][what], x -> x.ring(a, w));
            }
        }
        for (int what = 0; what < 6; what++) {
            int w = what;
            Bounds.sameEach(Bounds::busy, "ring what " + what, -2, (x, r) -> x.ring(r, w), NO_RINGS);
            Bounds.sameEach(Bounds::fresh, "ring what " + what, -2, (x, r) -> x.ring(r, w), 0, -1);
        }
        Bounds.sameEach(Bounds::busy, "ring(0, what)", -2, (x, what) -> x.ring(0, what), 6, -1, 32, 38, Bounds.MAX, Bounds.MIN);
        SpareRings most = Bounds.told(Bounds.full(5, 9, 0) + "costs:99;");
        Bounds.due("ring(36, 3)", most.ring(36, 3), 297);
        Bounds.due("ring(37, 3)", most.ring(37, 3), -2);
        SpareRings nodes = Bounds.told(Bounds.around(8, 1, 0));
        Bounds.due("eight nodes", nodes.ring(0, 1), 255);
    }

    private static void ringOf() {
        Bounds.says(7, "The number of the RING of some LINKS (as bits). NONE: there is none.");
        Bounds.same(Bounds::busy, "ringOf(15)", 0, x -> x.ringOf(15));
        Bounds.same(Bounds::busy, "ringOf(19)", 1, x -> x.ringOf(19));
        Bounds.same(Bounds::busy, "ringOf(28)", 2, x -> x.ringOf(28));
        Bounds.sameEach(Bounds::busy, "ringOf", -1, (x, n) -> x.ringOf(n), 0, 7, 14, 16, 18, 20, 27, 29, 31, 15 + 32, 15 + 1024,
                -1, 15 | Bounds.MIN, Bounds.MAX, Bounds.MIN);
        Bounds.sameEach(Bounds::fresh, "ringOf", -1, (x, n) -> x.ringOf(n), 0, 7, -1, Bounds.MAX, Bounds.MIN);
        SpareRings x = Bounds.told(Bounds.full(5, 1, 0));
        int found = 0;
        for (int bits = 0; bits < 400; bits++) {
            found += x.ringOf(bits) >= 0 ? 1 : 0;
        }
        SpareRings y = Bounds.told(Bounds.full(5, 1, 0));
        for (int bits = 400; bits < 800; bits++) {
            found += y.ringOf(bits) >= 0 ? 1 : 0;
        }
        SpareRings z = Bounds.told(Bounds.full(5, 1, 0));
        for (int bits = 800; bits < 1024 + 100; bits++) {
            found += z.ringOf(bits) >= 0 ? 1 : 0;
        }
        Bounds.due("rings by all bits", found, 37);
    }

    private static void use() {
        Bounds.says(8, "USE of a RING for a LINK. -2.");
        Bounds.same(Bounds::busy, "use(0, 4)", 2, x -> x.use(0, 4));
        Bounds.same(Bounds::busy, "use(2, 0)", 0, x -> x.use(2, 0));
        Bounds.same(Bounds::busy, "use(2, 4)", 1, x -> x.use(2, 4));
        Bounds.sameEach(Bounds::busy, "use of ring", -2, (x, r) -> x.use(r, 0), NO_RINGS);
        Bounds.sameEach(Bounds::busy, "use for link", -2, (x, l) -> x.use(0, l), NO_LINKS);
        Bounds.same(Bounds::busy, "use(3, 5)", -2, x -> x.use(3, 5));
        Bounds.same(Bounds::fresh, "use(0, 0)", -2, x -> x.use(0, 0));
        SpareRings none = Bounds.told(Bounds.SQUARE + "may:1=2;");
        Bounds.due("use(0, 0) without rings", none.use(0, 0), -2);
    }

    private static void path() {
        Bounds.says(9, "The i-th PATH (0 the first) of a COPY of a RING for a LINK, as bits. NONE: not so many; -2; -3: i is below 0.");
        Bounds.same(Bounds::busy, "path(0, 4, 0)", 3, x -> x.path(0, 4, 0));
        Bounds.same(Bounds::busy, "path(0, 4, 1)", 12, x -> x.path(0, 4, 1));
        Bounds.sameEach(Bounds::busy, "path of a chord", -1, (x, i) -> x.path(0, 4, i), 2, 3, 32, 33, Bounds.MAX);
        Bounds.same(Bounds::busy, "path(0, 3, 0)", 7, x -> x.path(0, 3, 0));
        Bounds.sameEach(Bounds::busy, "path of one on it", -1, (x, i) -> x.path(0, 3, i), 1, 2, 32, Bounds.MAX);
        Bounds.sameEach(Bounds::busy, "path of neither", -1, (x, i) -> x.path(1, 2, i), 0, 1, 2, Bounds.MAX);
        for (int l = 2; l < 5; l++) {
            int a = l;
            Bounds.sameEach(Bounds::busy, "path of ring 1 for " + l, -3, (x, i) -> x.path(1, a, i), -1, -2, -32, Bounds.MIN);
        }
        for (int i : new int[] {-1, 0, 1, 2, Bounds.MIN, Bounds.MAX}) {
            Bounds.sameEach(Bounds::busy, "path of ring, place " + i, -2, (x, r) -> x.path(r, 0, i), NO_RINGS);
            Bounds.sameEach(Bounds::busy, "path for link, place " + i, -2, (x, l) -> x.path(0, l, i), NO_LINKS);
            Bounds.same(Bounds::fresh, "path(0, 0, " + i + ")", -2, x -> x.path(0, 0, i));
        }
    }

    private static void best() {
        Bounds.says(25, "The RING of the least COST by USE (all USES; the first). NONE: there are no RINGS.");
        Bounds.same(Bounds::fresh, "best()", -1, x -> x.best());
        Bounds.due("best() of a ring", Bounds.told(Bounds.around(3, 1, 0)).best(), 0);
        Bounds.due("best() if none may", Bounds.told(Bounds.SQUARE + "may:1=2;").best(), -1);
        // 10 by 6 is less than 7 by 3; the two triangles are like: the first of them.
        Bounds.same(Bounds::square, "best()", 0, x -> x.best());
        Bounds.due("best() of two alike", Bounds.told(Bounds.SQUARE + "may:links=3;").best(), 0);
        String kite = "net nodes 4 rate 0;" + Bounds.link(0, 1, 1, 0) + Bounds.link(1, 2, 1, 0) + Bounds.link(2, 3, 1, 0)
                + Bounds.link(3, 0, 1, 0) + Bounds.link(0, 2, 1, 0);
        // Link 3 costs so that ring 0 costs 19, 20 or 21 by 6; ring 1 costs 10 by 3.
        for (int c = 6; c <= 8; c++) {
            Bounds.due("best() of 10 by 3 with link 3 for " + c, Bounds.told(kite + "costs:if from=3 then " + c
                    + " else if from=2 then 6 else if from=1 then 4 else 3 end end end;").best(), c <= 7 ? 0 : 1);
        }
        String costs = "costs:if from=0 and to=2 then 2 else if from=2 then 6 else 4 end end;";
        Bounds.due("best() with 18 by 6, 10 by 3, 12 by 3", Bounds.told(kite + costs).best(), 0);
        String last = "costs:if from=0 and to=2 then 1 else if from=2 then 1 else if from=3 then 1 else 40 end end end;";
        Bounds.due("best() with 82 by 6, 81 by 3, 3 by 3", Bounds.told(kite + last).best(), 2);
        SpareRings most = Bounds.told(Bounds.full(5, 1, 0));
        Bounds.holds("best() of 37: five links, five chords", Integer.bitCount(most.ring(most.best(), 0)) == 5);
        SpareRings x = Bounds.told(kite + "costs:if rate=0 then 5 else if from+to=1 or from+to=3 then 99 else 1 end end;");
        Bounds.due("best() by rate 0", x.best(), 0);
        x.rate(9);
        Bounds.due("best() by rate 9", x.best(), 2);
    }

    private static void rings() {
        Bounds.says(34, "How many RINGS there are.");
        Bounds.same(Bounds::fresh, "rings()", 0, x -> x.rings());
        Bounds.same(Bounds::busy, "rings()", 3, x -> x.rings());
        Bounds.due("rings() of five nodes", Bounds.told(Bounds.full(5, 1, 0)).rings(), 37);
        Bounds.due("rings() of four nodes", Bounds.told(Bounds.full(4, 1, 0)).rings(), 7);
        Bounds.due("rings() by a law", Bounds.told(Bounds.full(5, 1, 0) + "may:links=3 or links=5;").rings(), 22);
        SpareRings x = Bounds.square();
        x.fail(0);
        Bounds.due("rings() with a failed link", x.rings(), 3);
    }

    private static void bare() {
        Bounds.says(35, "LINKS without USE of any RING, as bits.");
        Bounds.same(Bounds::fresh, "bare()", 0, x -> x.bare());
        Bounds.same(Bounds::busy, "bare()", 0, x -> x.bare());
        Bounds.due("bare() of five nodes", Bounds.told(Bounds.full(5, 1, 0)).bare(), 0);
        Bounds.due("bare() if none may", Bounds.told(Bounds.full(5, 1, 0) + "may:1=2;").bare(), 1023);
        Bounds.due("bare() of a ring with a tail", Bounds.told(Bounds.around(3, 1, 0).replace("nodes 3", "nodes 4")
                + Bounds.link(2, 3, 1, 0)).bare(), 8);
        Bounds.due("a chord has use", Bounds.told(Bounds.SQUARE + "may:links=4;").bare(), 0);
        Bounds.due("links 2 and 3 have none", Bounds.told(Bounds.SQUARE + "may:links=3 and work=4;").bare(), 12);
        SpareRings x = Bounds.told(Bounds.SQUARE + "may:rate=9;");
        Bounds.due("bare() by rate 1", x.bare(), 31);
        x.rate(9);
        Bounds.due("bare() by rate 9", x.bare(), 0);
        x.rate(1);
        Bounds.due("bare() by rate 1 again", x.bare(), 31);
    }

    private static void bridges() {
        Bounds.says(36, "LINKS without which, each alone, fewer NODES could be come to from one of its ends, as bits.");
        Bounds.same(Bounds::fresh, "bridges()", 0, x -> x.bridges());
        Bounds.same(Bounds::busy, "bridges()", 0, x -> x.bridges());
        Bounds.due("one link", Bounds.told("net nodes 2 rate 0;" + Bounds.link(1, 0, 1, 0)).bridges(), 1);
        for (int n = 3; n <= 8; n++) {
            String around = Bounds.around(n, 1, 0);
            Bounds.due("a ring of " + n, Bounds.told(around).bridges(), 0);
            Bounds.due("a ring of " + n + " that is open", Bounds.told(around.substring(0, around.lastIndexOf("link"))).bridges(),
                    (1 << n - 1) - 1);
        }
        // Two triangles (links 0 1 2, 4 5 6) and link 3 between them.
        String two = "net nodes 7 rate 0;" + Bounds.link(0, 1, 1, 0) + Bounds.link(1, 2, 1, 0) + Bounds.link(2, 0, 1, 0)
                + Bounds.link(2, 3, 1, 0) + Bounds.link(3, 4, 1, 0) + Bounds.link(4, 5, 1, 0) + Bounds.link(5, 3, 1, 0);
        Bounds.due("a link between two rings", Bounds.told(two).bridges(), 8);
        Bounds.due("two links between them", Bounds.told(two + Bounds.link(0, 5, 1, 0)).bridges(), 0);
        Bounds.due("a law is no matter", Bounds.told(two + "may:1=2;").bridges(), 8);
        SpareRings x = Bounds.told(two);
        x.fail(0);
        Bounds.due("a failed link is no matter", x.bridges(), 8);
        Bounds.due("the last of ten links", Bounds.told("net nodes 7 rate 0;" + Bounds.link(0, 1, 1, 0) + Bounds.link(0, 2, 1, 0)
                + Bounds.link(0, 3, 1, 0) + Bounds.link(0, 4, 1, 0) + Bounds.link(1, 2, 1, 0) + Bounds.link(1, 3, 1, 0)
                + Bounds.link(1, 4, 1, 0) + Bounds.link(2, 3, 1, 0) + Bounds.link(2, 4, 1, 0) + Bounds.link(6, 4, 1, 0)).bridges(), 512);
    }

    private static void cut() {
        Bounds.says(37, "The fewest LINKS (as bits, of like ones the least) without which no way leads from one NODE to another one, "
                + "what 0: how many, 1: which.");
        SpareRings apart = Bounds.told("net nodes 8 rate 0;" + Bounds.link(0, 1, 1, 0));
        Bounds.due("cut(0, 7, 0) of two apart", apart.cut(0, 7, 0), 0);
        Bounds.due("cut(0, 7, 1) of two apart", apart.cut(0, 7, 1), 0);
        Bounds.due("cut(0, 1, 0) of one link", apart.cut(0, 1, 0), 1);
        Bounds.due("cut(0, 1, 1) of one link", apart.cut(0, 1, 1), 1);
        Bounds.due("cut(1, 0, 1) the other way", apart.cut(1, 0, 1), 1);
        SpareRings ring = Bounds.told(Bounds.around(8, 1, 0));
        Bounds.due("cut(0, 7, 1) of a ring: the least bits", ring.cut(0, 7, 1), 1 | 128);
        Bounds.due("cut(0, 4, 1): one of each side", ring.cut(0, 4, 1), 1 | 16);
        Bounds.due("cut(3, 5, 1)", ring.cut(3, 5, 1), 1 | 8);
        String line = Bounds.around(8, 1, 0);
        SpareRings open = Bounds.told(line.substring(0, line.lastIndexOf("link")));
        Bounds.due("cut(0, 7, 1) of a line: the first", open.cut(0, 7, 1), 1);
        Bounds.due("cut(6, 7, 1) of a line", open.cut(6, 7, 1), 64);
        Bounds.due("cut(3, 7, 1) of a line", open.cut(3, 7, 1), 8);
        SpareRings most = Bounds.told(Bounds.full(5, 1, 0));
        Bounds.due("cut(0, 4, 0) of all", most.cut(0, 4, 0), 4);
        Bounds.due("cut(0, 4, 1) of all: around 0", most.cut(0, 4, 1), 15);
        Bounds.due("cut(4, 3, 1) of all: around 3", most.cut(4, 3, 1), 4 | 32 | 128 | 512);
        SpareRings x = Bounds.square();
        for (int l = 0; l < 5; l++) {
            x.fail(l);
        }
        Bounds.due("failed links are no matter", x.cut(0, 2, 1), 21);
        Bounds.due("how many", x.cut(0, 2, 0), 3);
    }

    private static void cutRefused() {
        Bounds.says(37, "NONE: both are one; -2.");
        for (int n = 0; n < 4; n++) {
            int a = n;
            Bounds.sameEach(Bounds::busy, "cut(" + n + ", " + n + ", what)", -1, (x, what) -> x.cut(a, a, what), 0, 1);
            Bounds.sameEach(Bounds::busy, "cut(" + n + ", " + n + ", what)", -2, (x, what) -> x.cut(a, a, what), -1, 2, Bounds.MAX, Bounds.MIN);
        }
        int[] none = {4, -1, 7, 8, 31, 32, 34, Bounds.MAX, Bounds.MIN};
        for (int what = -1; what <= 2; what++) {
            int w = what;
            Bounds.sameEach(Bounds::busy, "cut from, what " + what, -2, (x, n) -> x.cut(n, 0, w), none);
            Bounds.sameEach(Bounds::busy, "cut to, what " + what, -2, (x, n) -> x.cut(3, n, w), none);
            Bounds.sameEach(Bounds::busy, "cut of both, what " + what, -2, (x, n) -> x.cut(n, n, w), none);
        }
        Bounds.sameEach(Bounds::busy, "cut(0, 3, what)", -2, (x, what) -> x.cut(0, 3, what), -1, 2, 32, Bounds.MAX, Bounds.MIN);
        Bounds.same(Bounds::busy, "cut(0, 3, 0)", 2, x -> x.cut(0, 3, 0));
        Bounds.same(Bounds::fresh, "cut(0, 0, 1)", -1, x -> x.cut(0, 0, 1));
        Bounds.same(Bounds::fresh, "cut(0, 1, 1)", -2, x -> x.cut(0, 1, 1));
        Bounds.same(Bounds::fresh, "cut(1, 1, 1)", -2, x -> x.cut(1, 1, 1));
    }
}
