/** Boundary cases of promises 19 to 24, 26 and 44 and of the Terms of what is to be laid yet. */
final class BoundsCovers {
    private static final int[] NO_RINGS = {3, -1, 36, 37, 40, 64, 65, Bounds.MAX, Bounds.MIN};
    /** A triangle with work (links 0, 1, 2) and a link (3) that is on no ring. */
    private static final String TAIL = "net nodes 4 rate 0;" + Bounds.link(0, 1, 1, 1) + Bounds.link(1, 2, 1, 1) + Bounds.link(2, 0, 1, 1)
            + "link 2 3 long 1 work ";
    /**
     * Rings 0 (links 0, 1, 2), 1 and 2 without work; rings 3 (links 5, 6, 9) and 4 (7, 8, 9), each to be laid
     * twice. Ring 0 costs 3 and the rate, ring 2 costs 3: so prices show what a tray has.
     */
    private static final String LISTED = "net nodes 8 rate 0;" + Bounds.link(0, 1, 1, 0) + Bounds.link(1, 2, 1, 0) + Bounds.link(0, 2, 1, 0)
            + Bounds.link(2, 3, 1, 0) + Bounds.link(3, 0, 1, 0) + Bounds.link(4, 5, 3, 2) + Bounds.link(5, 6, 3, 0) + Bounds.link(6, 7, 3, 2)
            + Bounds.link(7, 4, 3, 0) + Bounds.link(4, 6, 3, 0) + "may:links=3 or long<12;costs:if from=1 then rate+1 else 1 end;";

    private BoundsCovers() {
    }

    static void all() {
        isCover();
        cost();
        yetMore();
        aims();
        ofLikeOnes();
        nineAside();
        yetByRates();
        yet();
        yetRefused();
        among();
        boundIs();
        bound();
        covers();
        coversRefused();
        spare();
        spareTo30();
        lists();
        listsRefused();
    }

    private static void terms(String sentence) {
        Bounds.says(Bounds.TERMS, sentence);
    }

    private static SpareRings tail(int work) {
        return Bounds.told(TAIL + work + ";");
    }

    private static void isCover() {
        Bounds.says(19, "Whether there is a COVER: 1, else 0.");
        Bounds.same(Bounds::fresh, "isCover()", 1, x -> x.isCover());
        Bounds.same(Bounds::square, "isCover()", 0, x -> x.isCover());
        Bounds.same(Bounds::broken, "isCover() if all have failed", 1, x -> x.isCover());
        SpareRings x = tail(0);
        Bounds.due("isCover()", x.isCover(), 0);
        x.lay(0);
        Bounds.due("isCover() though link 3 has no use", x.isCover(), 1);
        SpareRings y = tail(1);
        for (int i = 0; i < 9; i++) {
            y.lay(0);
        }
        Bounds.due("isCover() if link 3 has work", y.isCover(), 0);
        Bounds.due("isCover() without work", Bounds.told(Bounds.full(5, 1, 0) + "may:1=2;").isCover(), 1);
        SpareRings taken = Bounds.square();
        taken.lay(0);
        Bounds.due("isCover()", taken.isCover(), 1);
        taken.take(0);
        Bounds.due("isCover()", taken.isCover(), 0);
    }

    private static void cost() {
        Bounds.says(20, "The COST of all COPIES that are laid, added.");
        Bounds.same(Bounds::fresh, "cost()", 0, x -> x.cost());
        Bounds.same(Bounds::square, "cost()", 0, x -> x.cost());
        Bounds.same(Bounds::broken, "cost() of nine", 90, x -> x.cost());
        SpareRings x = Bounds.told(Bounds.full(5, 1, 0) + "costs:99;");
        for (int r = 0; r < 37; r++) {
            for (int n = 0; n < 9; n++) {
                x.lay(r);
            }
        }
        // 10 rings of three links, 15 of four, 12 of five: 150 links.
        Bounds.due("copies", x.count(3), 333);
        Bounds.due("cost() of all there can be", x.cost(), 150 * 99 * 9);
        SpareRings y = Bounds.told(Bounds.SQUARE + "costs:rate;");
        y.lay(0);
        y.lay(1);
        for (int rate = 0; rate <= 9; rate++) {
            y.rate(rate);
            Bounds.due("cost() by rate " + rate, y.cost(), 7 * Math.max(1, rate));
        }
    }

    // ---- to be laid yet

    private static void yetMore() {
        terms("To lay YET: COPIES more so that there is a COVER with those that are laid.");
        SpareRings x = Bounds.told("net nodes 3 rate 0;" + Bounds.link(0, 1, 1, 2) + Bounds.link(1, 2, 1, 1) + Bounds.link(2, 0, 1, 0));
        for (int laid = 0; laid <= 9; laid++) {
            for (int aim = 0; aim < 2; aim++) {
                Bounds.due("yet(" + aim + ", 0) with " + laid, x.yet(aim, 0), 3 * Math.max(0, 2 - laid));
                Bounds.due("yet(" + aim + ", 1) with " + laid, x.yet(aim, 1), Math.max(0, 2 - laid));
                Bounds.due("among(" + aim + ", 0) with " + laid, x.among(aim, 0), Math.max(0, 2 - laid));
            }
            Bounds.due("isCover() with " + laid, x.isCover(), laid >= 2 ? 1 : 0);
            x.lay(0);
        }
        x.fail(0);
        Bounds.due("failed links are no matter", x.yet(0, 1), 0);
        SpareRings chord = Bounds.square();
        Bounds.due("yet(0, 1) of the square", chord.yet(0, 1), 1);
        chord.lay(1);
        Bounds.due("yet(0, 0) with a triangle: the other one", chord.yet(0, 0), 7);
        Bounds.due("among(0, 2)", chord.among(0, 2), 1);
        chord.lay(2);
        Bounds.due("yet(0, 0) with both", chord.yet(0, 0), 0);
    }

    /** Two triangles apart, and a ring around both by a link that is so long. */
    private static String twoOrOne(int length, boolean trianglesFirst) {
        String far = Bounds.link(2, 3, length, 0);
        String first = Bounds.link(0, 1, 1, 1) + Bounds.link(1, 2, 1, 1);
        String second = Bounds.link(3, 4, 1, 1) + Bounds.link(4, 0, 1, 1);
        String chords = Bounds.link(0, 2, 1, 0) + Bounds.link(3, 0, 1, 0);
        return "net nodes 5 rate 0;" + (trianglesFirst ? chords + first + second + far : far + first + second + chords);
    }

    private static void aims() {
        terms("AIM 0: CHEAPEST, the least COST of all these, added; AIM 1: FEWEST, as few of these as can be");
        for (int length = 1; length <= 9; length++) {
            SpareRings x = Bounds.told(twoOrOne(length, true));
            int around = x.ringOf(4 | 8 | 16 | 32 | 64);
            int first = x.ringOf(1 | 4 | 8);
            int second = x.ringOf(2 | 16 | 32);
            // The ring around costs 4 and the long link, the triangles 6.
            Bounds.due("yet(0, 0), long " + length, x.yet(0, 0), Math.min(6, 4 + length));
            Bounds.due("yet(0, 1), long " + length, x.yet(0, 1), length < 2 ? 1 : 2);
            Bounds.due("among(0, around), long " + length, x.among(0, around), length < 2 ? 1 : 0);
            Bounds.due("among(0, first), long " + length, x.among(0, first), length < 2 ? 0 : 1);
            Bounds.due("among(0, second), long " + length, x.among(0, second), length < 2 ? 0 : 1);
            Bounds.due("yet(1, 0), long " + length, x.yet(1, 0), 4 + length);
            Bounds.due("yet(1, 1), long " + length, x.yet(1, 1), 1);
            Bounds.due("among(1, around), long " + length, x.among(1, around), 1);
            Bounds.due("among(1, first), long " + length, x.among(1, first), 0);
        }
    }

    private static void ofLikeOnes() {
        terms("Of like ones: for the first LINK that isn't COVERED (the least number) the RING of the least number with USE for it "
                + "that is in one of them, then so on with it laid.");
        // Alike at 2 long: the ring whose number is the least of those that are in one of them.
        SpareRings around = Bounds.told(twoOrOne(2, false));
        Bounds.due("the ring around is ahead of the first triangle", around.ringOf(1 | 2 | 4 | 8 | 16), 0);
        Bounds.due("yet(0, 1)", around.yet(0, 1), 1);
        Bounds.due("among(0, 0)", around.among(0, 0), 1);
        SpareRings triangles = Bounds.told(twoOrOne(2, true));
        Bounds.due("yet(0, 1): the first triangle is ahead", triangles.yet(0, 1), 2);
        Bounds.due("among(0, 0)", triangles.among(0, 0), 1);
        // Any one ring has use for link 4: the first; the cheapest are the two of three links.
        String chord = Bounds.SQUARE.replace("work 1", "work 0").replace("work 2", "work 1");
        SpareRings x = Bounds.told(chord);
        Bounds.due("among(1, 0), fewest", x.among(1, 0), 1);
        Bounds.due("yet(1, 0)", x.yet(1, 0), 10);
        Bounds.due("among(0, 1), cheapest", x.among(0, 1), 1);
        Bounds.due("among(0, 2), cheapest", x.among(0, 2), 0);
        Bounds.due("yet(0, 0)", x.yet(0, 0), 7);
        // Of two copies: rings 3 3 or 3 4; the cheapest are 3 4.
        SpareRings y = Bounds.told("net nodes 8 rate 0;" + Bounds.link(0, 1, 1, 0) + Bounds.link(1, 2, 1, 0) + Bounds.link(2, 3, 1, 0)
                + Bounds.link(3, 0, 1, 0) + Bounds.link(0, 2, 1, 0) + Bounds.link(4, 5, 1, 2) + Bounds.link(5, 6, 1, 0)
                + Bounds.link(6, 7, 1, 1) + Bounds.link(7, 4, 1, 0) + Bounds.link(4, 6, 1, 0));
        int[][] among = {{0, 0, 0, 1, 1, 0}, {0, 0, 0, 2, 0, 0}};
        for (int aim = 0; aim < 2; aim++) {
            for (int r = 0; r < 6; r++) {
                Bounds.due("among(" + aim + ", " + r + ")", y.among(aim, r), among[aim][r]);
            }
            Bounds.due("yet(" + aim + ", 0)", y.yet(aim, 0), 7 + aim);
            Bounds.due("yet(" + aim + ", 1)", y.yet(aim, 1), 2);
        }
        theFirstLink();
        // With ring 4 laid once, one copy of ring 3 is all; with ring 3 laid once, the first of those with use for link 5.
        y.lay(4);
        Bounds.due("among(1, 3) with ring 4", y.among(1, 3), 1);
        y.take(4);
        y.lay(3);
        Bounds.due("among(1, 3) with ring 3", y.among(1, 3), 1);
        Bounds.due("among(0, 4) with ring 3", y.among(0, 4), 1);
    }

    /** Cheapest are rings 0 4, 1 5, 4 6 and 5 6: for link 2, the first with work, ring 1 is the least, not ring 0. */
    private static void theFirstLink() {
        SpareRings x = Bounds.told("net nodes 4 rate 0;" + Bounds.link(0, 1, 1, 0) + Bounds.link(0, 2, 1, 0) + Bounds.link(0, 3, 1, 1)
                + Bounds.link(1, 2, 1, 2) + Bounds.link(1, 3, 1, 2) + Bounds.link(2, 3, 1, 0));
        int[] among = {0, 1, 0, 0, 0, 1, 0};
        for (int r = 0; r < among.length; r++) {
            Bounds.due("among(0, " + r + ")", x.among(0, r), among[r]);
        }
        Bounds.due("yet(0, 0)", x.yet(0, 0), 7);
        // Ring 1 (links 0, 4, 5) is for the first link, then ring 0 (1, 2, 3); the ring around both costs 13.
        SpareRings y = Bounds.told("net nodes 5 rate 0;" + Bounds.link(3, 4, 1, 1) + Bounds.link(0, 1, 1, 1) + Bounds.link(1, 2, 1, 1)
                + Bounds.link(0, 2, 1, 0) + Bounds.link(4, 0, 1, 1) + Bounds.link(3, 0, 1, 0) + Bounds.link(2, 3, 9, 0));
        Bounds.due("among(0, 0)", y.among(0, 0), 1);
        Bounds.due("among(0, 1)", y.among(0, 1), 1);
        Bounds.due("yet(0, 0)", y.yet(0, 0), 6);
        Bounds.due("yet(1, 0)", y.yet(1, 0), 13);
    }

    /** By rates 0 to 3 the ring around is the cheapest, by 4 alike, by 5 to 9 the triangles; whatever was asked ahead. */
    private static void yetByRates() {
        Bounds.says(21, "To lay YET, an AIM (0, 1), what 0: their COST, 1: how many.");
        SpareRings x = Bounds.told(twoOrOne(9, true) + "costs:if long=9 then rate*2+2 else 5 end;");
        SpareRings other = Bounds.told(twoOrOne(9, false) + "costs:if long=9 then rate*2+2 else 5 end;");
        int[] rates = {0, 9, 3, 4, 5, 1, 8, 2, 7, 6, 0, 9};
        for (int rate : rates) {
            x.rate(rate);
            other.rate(rate);
            Bounds.due("yet(0, 0) by rate " + rate, x.yet(0, 0), Math.min(30, 20 + 2 * rate + 2));
            Bounds.due("yet(1, 0) by rate " + rate, x.yet(1, 0), 20 + 2 * rate + 2);
            Bounds.due("yet(1, 1) by rate " + rate, x.yet(1, 1), 1);
            Bounds.due("yet(0, 1) by rate " + rate, x.yet(0, 1), rate < 4 ? 1 : 2);
            Bounds.due("yet(0, 1) by rate " + rate + ", the ring around ahead", other.yet(0, 1), rate < 5 ? 1 : 2);
        }
        // The triangles cost 6 and 6 times the rate, the ring around 17 and 4 times the rate.
        Bounds.tell(x, twoOrOne(9, true) + "costs:if long=9 then 13 else rate+1 end;");
        for (int rate : rates) {
            x.rate(rate);
            Bounds.due("yet(0, 0) by rate " + rate, x.yet(0, 0), rate < 6 ? 6 * rate + 6 : 4 * rate + 17);
            Bounds.due("yet(0, 1) by rate " + rate, x.yet(0, 1), rate < 6 ? 2 : 1);
        }
        Bounds.tell(x, Bounds.full(5, 1, 1));
        Bounds.due("yet(1, 1) of five nodes", x.yet(1, 1), 1);
        Bounds.tell(x, Bounds.SQUARE + "costs:50;");
        Bounds.due("yet(0, 0) of three dear rings", x.yet(0, 0), 200);
        Bounds.tell(x, Bounds.SQUARE);
        Bounds.due("yet(0, 0) of another net", x.yet(0, 0), 10);
        Bounds.tell(x, Bounds.SQUARE + "costs:3;");
        Bounds.due("yet(0, 0) of one more", x.yet(0, 0), 12);
        x.lay(1);
        Bounds.due("yet(0, 0) with ring 1", x.yet(0, 0), 9);
        Bounds.due("yet(1, 0) with ring 1", x.yet(1, 0), 12);
        x.undo(1);
        Bounds.due("yet(0, 0) without it", x.yet(0, 0), 12);
    }

    private static void nineAside() {
        terms("(however many of one RING; 9 aside)");
        // Three triangles at one node, each link with 2 to do: two copies of each.
        SpareRings x = Bounds.told("net nodes 7 rate 0;" + Bounds.link(0, 1, 1, 2) + Bounds.link(1, 2, 1, 2) + Bounds.link(2, 0, 1, 2)
                + Bounds.link(0, 3, 1, 2) + Bounds.link(3, 4, 1, 2) + Bounds.link(4, 0, 1, 2) + Bounds.link(0, 5, 1, 2)
                + Bounds.link(5, 6, 1, 2) + Bounds.link(6, 0, 1, 2));
        for (int aim = 0; aim < 2; aim++) {
            Bounds.due("yet(" + aim + ", 0)", x.yet(aim, 0), 18);
            Bounds.due("yet(" + aim + ", 1)", x.yet(aim, 1), 6);
            for (int r = 0; r < 3; r++) {
                Bounds.due("among(" + aim + ", " + r + ")", x.among(aim, r), 2);
            }
        }
        for (int i = 0; i < 9; i++) {
            x.lay(1);
        }
        Bounds.due("yet(0, 1) with nine of ring 1", x.yet(0, 1), 4);
        Bounds.due("among(1, 1)", x.among(1, 1), 0);
        Bounds.due("among(1, 2)", x.among(1, 2), 2);
        SpareRings most = Bounds.told("net nodes 3 rate 0;" + Bounds.link(0, 1, 9, 2) + Bounds.link(1, 2, 9, 2) + Bounds.link(2, 0, 9, 2)
                + "costs:99;");
        Bounds.due("yet(0, 0) of dear ones", most.yet(0, 0), 594);
    }

    private static void yet() {
        Bounds.says(21, "To lay YET, an AIM (0, 1), what 0: their COST, 1: how many. NONE: it can't be; -2.");
        for (int aim = 0; aim < 2; aim++) {
            int a = aim;
            Bounds.sameEach(Bounds::fresh, "yet of nothing, aim " + aim, 0, (x, what) -> x.yet(a, what), 0, 1);
            Bounds.sameEach(() -> tail(1), "yet that can't be, aim " + aim, -1, (x, what) -> x.yet(a, what), 0, 1);
            Bounds.same(() -> tail(0), "yet(" + aim + ", 0)", 3, x -> x.yet(a, 0));
            Bounds.same(() -> tail(0), "yet(" + aim + ", 1)", 1, x -> x.yet(a, 1));
            Bounds.same(Bounds::square, "yet(" + aim + ", 0)", 10, x -> x.yet(a, 0));
            Bounds.same(Bounds::broken, "yet(" + aim + ", 1)", 0, x -> x.yet(a, 1));
            Bounds.sameEach(() -> Bounds.told(Bounds.SQUARE + "may:1=2;"), "yet without rings, aim " + aim, -1, (x, what) -> x.yet(a, what), 0, 1);
        }
        // Laid copies don't help a link without use.
        SpareRings x = tail(1);
        x.lay(0);
        Bounds.due("yet(0, 0) of the tail's link", x.yet(0, 0), -1);
        SpareRings y = Bounds.told(Bounds.SQUARE + "may:links=3 and work=4 or rate>5;");
        Bounds.due("yet(0, 1) by rate 1: link 2 has no use", y.yet(0, 1), -1);
        y.rate(6);
        Bounds.due("yet(0, 1) by rate 6", y.yet(0, 1), 1);
        y.rate(1);
        Bounds.due("yet(0, 1) by rate 1 again", y.yet(0, 1), -1);
    }

    private static void yetRefused() {
        Bounds.says(21, "NONE: it can't be; -2.");
        int[] wrong = {-1, 2, 3, 32, Bounds.MAX, Bounds.MIN};
        for (int what = -1; what <= 2; what++) {
            int w = what;
            Bounds.sameEach(Bounds::busy, "yet of aim, what " + what, -2, (x, aim) -> x.yet(aim, w), wrong);
            Bounds.sameEach(() -> tail(1), "yet of aim, what " + what, -2, (x, aim) -> x.yet(aim, w), wrong);
        }
        for (int aim = 0; aim < 2; aim++) {
            int a = aim;
            Bounds.sameEach(Bounds::busy, "yet(" + aim + ", what)", -2, (x, what) -> x.yet(a, what), wrong);
            Bounds.sameEach(() -> tail(1), "yet(" + aim + ", what)", -2, (x, what) -> x.yet(a, what), wrong);
            Bounds.sameEach(Bounds::fresh, "yet(" + aim + ", what)", -2, (x, what) -> x.yet(a, what), wrong);
        }
    }

    private static void among() {
        Bounds.says(22, "How many COPIES of a RING are among these. NONE: it can't be; -2.");
        for (int aim = 0; aim < 2; aim++) {
            int a = aim;
            Bounds.same(Bounds::square, "among(" + aim + ", 0)", 1, x -> x.among(a, 0));
            Bounds.sameEach(Bounds::square, "among of others", 0, (x, r) -> x.among(a, r), 1, 2);
            Bounds.sameEach(Bounds::square, "among of no ring", -2, (x, r) -> x.among(a, r), NO_RINGS);
            Bounds.sameEach(Bounds::fresh, "among of no ring", -2, (x, r) -> x.among(a, r), 0, -1, 1);
            Bounds.same(() -> tail(1), "among(" + aim + ", 0) that can't be", -1, x -> x.among(a, 0));
            Bounds.sameEach(() -> tail(1), "among of no ring", -2, (x, r) -> x.among(a, r), 1, -1, Bounds.MAX, Bounds.MIN);
        }
        for (int r = -1; r <= 3; r++) {
            int a = r;
            Bounds.sameEach(Bounds::square, "among of aim, ring " + r, -2, (x, aim) -> x.among(aim, a), -1, 2, 32, Bounds.MAX, Bounds.MIN);
            Bounds.sameEach(() -> tail(1), "among of aim, ring " + r, -2, (x, aim) -> x.among(aim, a), -1, 2, Bounds.MAX, Bounds.MIN);
        }
        SpareRings last = Bounds.told(Bounds.full(5, 1, 0).replace("link 3 4 long 1 work 0", "link 3 4 long 1 work 2") + "may:long=3;");
        Bounds.due("rings", last.rings(), 10);
        Bounds.due("among(0, 9)", last.among(0, 9), 0);
        Bounds.due("among(0, 7): the first with use for link 9", last.among(0, 7), 2);
        Bounds.due("among(0, 10)", last.among(0, 10), -2);
    }

    private static void boundIs() {
        terms("BOUND: of each LINK its WORK (as it is told, nothing laid), as many times as the least COST by USE of the RINGS that have USE "
                + "for it (COST divided by its USES for all LINKS, added), all added: a fraction no CHEAPEST COVER is below.");
        // Of the square all by 10 / 6; of its triangles links 0, 1, 2 and twice 4 by 7 / 3.
        bounds(Bounds.SQUARE, 25, 3);
        bounds(Bounds.SQUARE + "may:links=3;", 35, 3);
        bounds(Bounds.SQUARE + "may:links=3 and work=4 or links=4;", 25, 3);
        SpareRings x = Bounds.square();
        x.lay(0);
        x.lay(0);
        x.fail(4);
        Bounds.due("bound(0) with copies laid", x.bound(0), 25);
        Bounds.due("bound(1) with copies laid", x.bound(1), 3);
        bounds("net nodes 3 rate 0;" + Bounds.link(0, 1, 1, 0) + Bounds.link(1, 2, 1, 0) + Bounds.link(2, 0, 1, 0), 0, 1);
        bounds("net nodes 3 rate 0;" + Bounds.link(0, 1, 1, 0) + Bounds.link(1, 2, 1, 1) + Bounds.link(2, 0, 1, 0), 1, 1);
        bounds("net nodes 3 rate 0;" + Bounds.link(0, 1, 1, 0) + Bounds.link(1, 2, 1, 2) + Bounds.link(2, 0, 2, 0), 8, 3);
        bounds("net nodes 3 rate 0;" + Bounds.link(0, 1, 9, 2) + Bounds.link(1, 2, 9, 2) + Bounds.link(2, 0, 9, 2) + "costs:99;", 594, 1);
        // Ring 0 (1 + 1 + 9 + 1 = 12 by 6), ring 1 (3 by 3), ring 2 (11 by 3): links 0, 1, 4 by 1, links 2, 3 by 2.
        String far = "net nodes 4 rate 0;" + Bounds.link(0, 1, 1, 1) + Bounds.link(1, 2, 1, 2) + Bounds.link(2, 3, 9, 1)
                + Bounds.link(3, 0, 1, 2) + Bounds.link(0, 2, 1, 2);
        bounds(far, 1 + 2 + 2 + 4 + 2, 1);
        for (SpareRings y : new SpareRings[] {Bounds.square(), Bounds.told(far), Bounds.told(Bounds.full(5, 3, 2)),
            Bounds.told(Bounds.full(5, 3, 1) + "may:links<5;costs:from*to+1;")}) {
            Bounds.holds("no cheapest cover is below", y.yet(0, 0) * y.bound(1) >= y.bound(0));
        }
        Bounds.due("a cheapest cover that is the bound", Bounds.told("net nodes 3 rate 0;" + Bounds.link(0, 1, 1, 1)
                + Bounds.link(1, 2, 1, 1) + Bounds.link(2, 0, 1, 1)).bound(0), 3);
    }

    private static void bounds(String net, long above, long below) {
        SpareRings x = Bounds.told(net);
        Bounds.due("bound(0) of: " + net, x.bound(0), above);
        Bounds.due("bound(1) of: " + net, x.bound(1), below);
    }

    private static void bound() {
        Bounds.says(23, "BOUND, what 0: the number above, 1: below, in lowest terms. NONE: a LINK with WORK has no USE of any RING; -2.");
        Bounds.same(Bounds::fresh, "bound(0)", 0, x -> x.bound(0));
        Bounds.same(Bounds::fresh, "bound(1)", 1, x -> x.bound(1));
        Bounds.same(Bounds::square, "bound(0)", 25, x -> x.bound(0));
        Bounds.same(Bounds::square, "bound(1)", 3, x -> x.bound(1));
        Bounds.sameEach(() -> tail(1), "bound", -1, (x, what) -> x.bound(what), 0, 1);
        Bounds.sameEach(() -> tail(2), "bound", -1, (x, what) -> x.bound(what), 0, 1);
        Bounds.same(() -> tail(0), "bound(0) if link 3 has no work", 3, x -> x.bound(0));
        Bounds.same(() -> tail(0), "bound(1) if link 3 has no work", 1, x -> x.bound(1));
        Bounds.sameEach(() -> Bounds.told(Bounds.SQUARE + "may:1=2;"), "bound without rings", -1, (x, what) -> x.bound(what), 0, 1);
        int[] wrong = {-1, 2, 3, 32, Bounds.MAX, Bounds.MIN};
        Bounds.sameEach(Bounds::busy, "bound", -2, (x, what) -> x.bound(what), wrong);
        Bounds.sameEach(Bounds::fresh, "bound", -2, (x, what) -> x.bound(what), wrong);
        Bounds.sameEach(() -> tail(1), "bound", -2, (x, what) -> x.bound(what), wrong);
        // 3 by 3 of link 0, 4 by 3 of link 4, 5 by 3 of link 7: 12 / 3, in lowest terms 4.
        bounds("net nodes 7 rate 0;" + Bounds.link(0, 1, 1, 1) + Bounds.link(1, 2, 1, 0) + Bounds.link(2, 0, 1, 0) + Bounds.link(0, 3, 2, 0)
                + Bounds.link(3, 4, 1, 1) + Bounds.link(4, 0, 1, 0) + Bounds.link(0, 5, 3, 0) + Bounds.link(5, 6, 1, 1)
                + Bounds.link(6, 0, 1, 0), 4, 1);
        // A ring of three (4 by 3) and a ring of four (5 by 4).
        bounds("net nodes 8 rate 0;" + Bounds.link(0, 1, 1, 1) + Bounds.link(1, 2, 1, 0) + Bounds.link(2, 0, 2, 0) + Bounds.link(3, 4, 1, 1)
                + Bounds.link(4, 5, 1, 0) + Bounds.link(5, 6, 1, 0) + Bounds.link(6, 3, 2, 0), 4 * 4 + 5 * 3, 12);
    }

    private static void covers() {
        Bounds.says(24, "In how many ways just n COPIES (0 to 3; those of one RING alike) are a COVER, nothing else laid.");
        int[] fresh = {1, 0, 0, 0};
        int[] square = {0, 1, 4, 8};
        int[] all = {1, 37, 37 * 38 / 2, 37 * 38 * 39 / 6};
        int[] twice = {0, 0, 1, 1};
        int[] once = {0, 1, 1, 1};
        for (int n = 0; n <= 3; n++) {
            int a = n;
            Bounds.same(Bounds::fresh, "covers(" + n + ")", fresh[n], x -> x.covers(a));
            // Ring 0 with any others, or rings 1 and 2 with any other one.
            Bounds.same(Bounds::square, "covers(" + n + ")", square[n], x -> x.covers(a));
            Bounds.same(Bounds::broken, "covers(" + n + ") with copies laid, links failed", square[n], x -> x.covers(a));
            Bounds.due("covers(" + n + ") of 37 rings without work", Bounds.told(Bounds.full(5, 1, 0)).covers(n), all[n]);
            Bounds.due("covers(" + n + ") if none may", Bounds.told(Bounds.SQUARE + "may:1=2;").covers(n), 0);
            Bounds.due("covers(" + n + ") of the tail", tail(1).covers(n), 0);
            Bounds.due("covers(" + n + ") of a ring, work 1", tail(0).covers(n), once[n]);
            Bounds.due("covers(" + n + ") of a ring, work 2", Bounds.told(Bounds.around(4, 1, 2)).covers(n), twice[n]);
        }
        // Three triangles at one node: just all three.
        SpareRings x = Bounds.told("net nodes 7 rate 0;" + Bounds.link(0, 1, 1, 1) + Bounds.link(1, 2, 1, 0) + Bounds.link(2, 0, 1, 0)
                + Bounds.link(0, 3, 1, 1) + Bounds.link(3, 4, 1, 0) + Bounds.link(4, 0, 1, 0) + Bounds.link(0, 5, 1, 1)
                + Bounds.link(5, 6, 1, 0) + Bounds.link(6, 0, 1, 0));
        Bounds.due("covers(2) of three rings", x.covers(2), 0);
        Bounds.due("covers(3) of three rings", x.covers(3), 1);
    }

    private static void coversRefused() {
        Bounds.says(24, "-3.");
        int[] wrong = {-1, 4, 5, 32, Bounds.MAX, Bounds.MIN};
        Bounds.sameEach(Bounds::busy, "covers", -3, (x, n) -> x.covers(n), wrong);
        Bounds.sameEach(Bounds::fresh, "covers", -3, (x, n) -> x.covers(n), wrong);
        Bounds.sameEach(() -> tail(1), "covers", -3, (x, n) -> x.covers(n), wrong);
    }

    private static SpareRings laid(String net, int... rings) {
        SpareRings x = Bounds.told(net);
        for (int r : rings) {
            Bounds.holds("lay(" + r + ")", x.lay(r) > 0);
        }
        return x;
    }

    private static void spare() {
        Bounds.says(26, "COPIES, each RING's last, without which there is a COVER still, RING by RING as bits of its number");
        Bounds.due("spare() of just enough", laid(Bounds.SQUARE, 0).spare(), 0);
        Bounds.due("spare() of one more", laid(Bounds.SQUARE, 0, 0).spare(), 1);
        Bounds.due("spare() of both triangles", laid(Bounds.SQUARE, 1, 2).spare(), 0);
        Bounds.due("spare() of a triangle twice", laid(Bounds.SQUARE, 1, 2, 2).spare(), 4);
        Bounds.due("spare() of all three", laid(Bounds.SQUARE, 0, 1, 2).spare(), 7);
        Bounds.due("spare() of the ring and one", laid(Bounds.SQUARE, 0, 1).spare(), 2);
        Bounds.due("spare() of the ring twice and one", laid(Bounds.SQUARE, 0, 0, 2).spare(), 5);
        Bounds.due("spare() of a ring not laid, without work", Bounds.told(Bounds.full(5, 1, 0)).spare(), 0);
        Bounds.says(26, "0: there is no COVER).");
        Bounds.same(Bounds::fresh, "spare()", 0, x -> x.spare());
        Bounds.same(Bounds::square, "spare()", 0, x -> x.spare());
        Bounds.same(Bounds::broken, "spare() of nine", 1, x -> x.spare());
        Bounds.same(() -> laid(Bounds.SQUARE, 1, 1, 1), "spare() without a cover", 0, x -> x.spare());
        Bounds.same(() -> laid(TAIL + "1;", 0, 0), "spare() if link 3 has no use", 0, x -> x.spare());
        Bounds.same(() -> laid(TAIL + "0;", 0, 0), "spare() if it has no work", 1, x -> x.spare());
    }

    private static void spareTo30() {
        Bounds.says(26, "(those of numbers to 30;");
        String net = Bounds.full(5, 1, 0);
        Bounds.due("spare() of ring 29", laid(net, 29).spare(), 1 << 29);
        Bounds.due("spare() of ring 30", laid(net, 30).spare(), 1 << 30);
        for (int r = 31; r < 37; r++) {
            Bounds.due("spare() of ring " + r, laid(net, r).spare(), 0);
        }
        Bounds.due("spare() of rings 0, 30, 31, 32, 36", laid(net, 0, 30, 31, 32, 36).spare(), 1 | 1 << 30);
        int[] all = new int[37];
        for (int r = 0; r < 37; r++) {
            all[r] = r;
        }
        Bounds.due("spare() of all", laid(net, all).spare(), Bounds.MAX);
    }

    // ---- lists

    private static SpareRings listed(int size, int sort) {
        SpareRings x = Bounds.told(LISTED);
        Bounds.due("numbers(0, " + sort + ", " + size + ")", x.numbers(0, sort, size), 0);
        for (int i = 0; i < size; i++) {
            Bounds.due("write(0, " + i + ", 12)", x.write(0, i, 12), 12);
        }
        return x;
    }

    private static void lists() {
        Bounds.says(44, "RINGS of COPIES to lay YET by an AIM (each as often as it is among them, the least numbers first) come into a TRAY, "
                + "as far as it has places: how many.");
        int[] come = {3, 3, 4, 4, 12, 12};
        for (int aim = 0; aim < 2; aim++) {
            for (int size = 0; size <= 6; size++) {
                Bounds.due("lists into " + size, listed(size, 1).lists(0, aim), Math.min(size, 4));
                for (int place = 0; place < size; place++) {
                    SpareRings x = listed(size, 1);
                    x.lists(0, aim);
                    for (int other = 0; other < size; other++) {
                        if (other != place) {
                            x.write(0, other, 2003);
                        }
                    }
                    Bounds.due("number " + place + " of " + size, x.rates(0), 1 << come[place] - 3);
                }
            }
            Bounds.due("lists into forty", listed(40, 3).lists(0, aim), 4);
            Bounds.due("lists into bytes", listed(3, 0).lists(0, aim), 3);
            SpareRings one = listed(1, 0);
            one.lists(0, aim);
            Bounds.due("the one byte", one.rates(0), 1);
        }
        SpareRings x = listed(4, 1);
        x.lay(3);
        x.lay(3);
        x.lay(4);
        Bounds.due("lists of one to lay", x.lists(0, 0), 1);
        x.write(0, 1, 2003);
        x.write(0, 2, 2003);
        x.write(0, 3, 2003);
        Bounds.due("it is ring 4", x.rates(0), 2);
        x.lay(4);
        Bounds.due("lists of a cover", x.lists(0, 0), 0);
        Bounds.due("the tray stays", x.rates(0), 2);
        Bounds.due("nothing to be undone by it", x.count(6), 4);
        SpareRings zero = Bounds.square();
        zero.numbers(0, 0, 3);
        Bounds.due("lists of ring 0", zero.lists(0, 0), 1);
        SpareRings twice = Bounds.told(Bounds.around(4, 1, 2));
        twice.numbers(0, 0, 3);
        Bounds.due("lists of ring 0, twice", twice.lists(0, 1), 2);
        SpareRings last = Bounds.told(Bounds.full(5, 1, 0).replace("link 3 4 long 1 work 0", "link 3 4 long 1 work 2") + "may:long=3;");
        last.numbers(3, 2, 40);
        Bounds.due("lists of ring 7, twice", last.lists(3, 0), 2);
    }

    private static void listsRefused() {
        Bounds.says(44, "-2: the TRAY, the AIM; -6; -5: it can't be.");
        for (int aim = -1; aim <= 2; aim++) {
            int a = aim;
            Bounds.sameEach(Bounds::busy, "lists of tray, aim " + aim, -2, (x, t) -> x.lists(t, a), 4, -1, 32, Bounds.MAX, Bounds.MIN);
            Bounds.same(Bounds::busy, "lists into a missing tray, aim " + aim, aim < 0 || aim > 1 ? -2 : -6, x -> x.lists(3, a));
            Bounds.same(Bounds::fresh, "lists into a missing tray, aim " + aim, aim < 0 || aim > 1 ? -2 : -6, x -> x.lists(0, a));
            Bounds.same(() -> tailWithTray(), "lists that can't be, aim " + aim, aim < 0 || aim > 1 ? -2 : -5, x -> x.lists(1, a));
            Bounds.same(() -> tailWithTray(), "lists into a missing tray, aim " + aim, aim < 0 || aim > 1 ? -2 : -6, x -> x.lists(0, a));
        }
        Bounds.sameEach(Bounds::busy, "lists of aim", -2, (x, aim) -> x.lists(0, aim), -1, 2, 32, Bounds.MAX, Bounds.MIN);
        Bounds.same(Bounds::busy, "lists into an empty tray", 0, x -> x.lists(2, 0));
        SpareRings none = tail(1);
        none.numbers(1, 0, 0);
        Bounds.due("lists into an empty tray that can't be", none.lists(1, 0), -5);
    }

    private static SpareRings tailWithTray() {
        SpareRings x = tail(1);
        Bounds.fill(x, 1, 1, 103, 200, 3);
        return x;
    }
}
