/** Boundary cases of promises 27 to 33: where units run, what would be lost. */
final class BoundsFailing {
    private static final int[] NO_LINKS = {5, -1, 9, 10, 32, 36, 64, Bounds.MAX, Bounds.MIN};

    private BoundsFailing() {
    }

    static void all() {
        units();
        runs();
        runsNone();
        runsRefused();
        lost();
        ifFails();
        ifFailsRefused();
        worst();
        fresh();
        two();
        eitherWay();
        twoRefused();
        twos();
        twosWhich();
        twosRefused();
        stands();
        standsNone();
    }

    private static void units() {
        Bounds.says(Bounds.TERMS, "Units of a LINK's WORK are told by u from 0 on.");
        for (int work = 0; work <= 2; work++) {
            SpareRings x = Bounds.told("net nodes 3 rate 0;" + Bounds.link(0, 1, 1, work) + Bounds.link(1, 2, 1, 0) + Bounds.link(2, 0, 1, 0));
            x.lay(0);
            x.lay(0);
            x.fail(0);
            for (int u = -1; u <= 3; u++) {
                Bounds.due("copy of unit " + u + " of " + work, x.runs(0, u, 1), u >= 0 && u < work ? u : -2);
            }
        }
    }

    /** The square with three rings laid, links 4 and 1 failed: unit 0 of link 4 runs on ring 2. */
    private static SpareRings running() {
        SpareRings x = Bounds.square();
        x.lay(0);
        x.lay(0);
        x.lay(2);
        x.fail(4);
        x.fail(1);
        return x;
    }

    private static void runs() {
        Bounds.says(27, "Where unit u of a failed LINK runs, what 0: the RING, 1: the COPY, 2: the PATH, as bits.");
        // Link 1's unit takes copy 1 of ring 0; unit 0 of link 4, broken by link 1, ring 2.
        int[][] units = {{1, 0, 0, 1, 13}, {4, 0, 2, 0, 12}, {4, 1, 0, 0, 12}};
        for (int[] unit : units) {
            for (int what = 0; what < 3; what++) {
                int w = what;
                Bounds.same(BoundsFailing::running, "runs(" + unit[0] + ", " + unit[1] + ", " + what + ")", unit[2 + what],
                        x -> x.runs(unit[0], unit[1], w));
            }
        }
        SpareRings last = Bounds.told(Bounds.full(5, 1, 2));
        for (int i = 0; i < 9; i++) {
            last.lay(36);
        }
        last.fail(9);
        Bounds.due("ring 36", last.runs(9, 1, 0), 36);
        Bounds.due("its copy 1", last.runs(9, 1, 1), 1);
        Bounds.due("its path", last.runs(9, 1, 2), 384);
        SpareRings anew = Bounds.told(Bounds.SQUARE + "may:links=3 and work=3 or rate=2;");
        anew.lay(0);
        anew.fail(2);
        Bounds.due("the only ring", anew.runs(2, 0, 0), 0);
        Bounds.due("its path", anew.runs(2, 0, 2), 24);
    }

    private static void runsNone() {
        Bounds.says(27, "NONE: it is LOST, the LINK hasn't failed;");
        for (int what = 0; what < 3; what++) {
            int w = what;
            Bounds.same(Bounds::square, "runs of a link that hasn't failed, what " + what, -1, x -> x.runs(4, 1, w));
            Bounds.same(Bounds::broken, "runs of a lost unit, what " + what, -1, x -> x.runs(4, 1, w));
            SpareRings x = running();
            Bounds.holds("it runs", x.runs(4, 0, what) >= 0);
            x.mend(4);
            Bounds.due("runs of a mended link, what " + what, x.runs(4, 0, what), -1);
            x.fail(4);
            Bounds.due("unit 1 runs on ring 2 now, what " + what, x.runs(4, 1, what), new int[] {2, 0, 12}[what]);
            x.take(2);
            Bounds.due("runs of a unit lost again, what " + what, x.runs(4, 1, what), -1);
            Bounds.due("runs of the other one, what " + what, x.runs(4, 0, what), new int[] {0, 0, 12}[what]);
        }
    }

    private static void runsRefused() {
        Bounds.says(27, "-2: the LINK, the unit, what.");
        int[] noUnit = {2, -1, 3, 32, Bounds.MAX, Bounds.MIN};
        int[] noWhat = {3, -1, 4, 32, Bounds.MAX, Bounds.MIN};
        for (int what = -1; what <= 3; what++) {
            int w = what;
            Bounds.sameEach(BoundsFailing::running, "runs of link, what " + what, -2, (x, l) -> x.runs(l, 0, w), NO_LINKS);
            Bounds.sameEach(BoundsFailing::running, "runs of unit, what " + what, -2, (x, u) -> x.runs(4, u, w), noUnit);
            Bounds.sameEach(BoundsFailing::running, "runs of link 1's unit, what " + what, -2, (x, u) -> x.runs(1, u, w), 1, 2, -1);
            Bounds.sameEach(BoundsFailing::running, "runs of link 3's unit, what " + what, -2, (x, u) -> x.runs(3, u, w), 0, 1, -1);
            Bounds.same(Bounds::fresh, "runs(0, 0, " + what + ")", -2, x -> x.runs(0, 0, w));
        }
        for (int u = 0; u < 2; u++) {
            int a = u;
            Bounds.sameEach(BoundsFailing::running, "runs of unit " + u, -2, (x, what) -> x.runs(4, a, what), noWhat);
            Bounds.sameEach(Bounds::square, "runs of unit " + u + ", none has failed", -2, (x, what) -> x.runs(4, a, what), noWhat);
        }
    }

    private static void lost() {
        Bounds.says(28, "How many units are LOST, of all.");
        Bounds.same(Bounds::fresh, "lost()", 0, x -> x.lost());
        Bounds.same(Bounds::square, "lost()", 0, x -> x.lost());
        Bounds.same(Bounds::broken, "lost() of all", 5, x -> x.lost());
        Bounds.same(BoundsFailing::running, "lost()", 0, x -> x.lost());
        SpareRings x = Bounds.told(Bounds.full(5, 1, 2));
        for (int l = 0; l < 10; l++) {
            x.fail(l);
            Bounds.due("lost()", x.lost(), 2 * l + 2);
        }
        for (int l = 0; l < 10; l++) {
            Bounds.due("of it link " + l, x.link(l, 6), 2);
        }
        SpareRings none = Bounds.told(Bounds.full(5, 1, 0));
        for (int l = 0; l < 10; l++) {
            none.fail(l);
        }
        Bounds.due("lost() without work", none.lost(), 0);
    }

    private static void ifFails() {
        Bounds.says(29, "How many units would be LOST, of all, if one LINK more failed now.");
        int[] bare = {1, 1, 1, 0, 2};
        for (int l = 0; l < 5; l++) {
            int a = l;
            Bounds.same(Bounds::square, "ifFails(" + l + ")", bare[l], x -> x.ifFails(a));
        }
        SpareRings x = Bounds.square();
        x.lay(0);
        for (int l = 0; l < 5; l++) {
            Bounds.due("ifFails(" + l + ") with a ring", x.ifFails(l), 0);
        }
        x.fail(4);
        int[] more = {2, 2, 2, 1};
        for (int l = 0; l < 4; l++) {
            Bounds.due("ifFails(" + l + ") with link 4 failed", x.ifFails(l), more[l]);
        }
        x.fail(0);
        x.fail(1);
        x.fail(2);
        Bounds.due("ifFails(3), the last one", x.ifFails(3), 5);
        x.fail(3);
        Bounds.due("ifFails(3) as it is now", x.ifFails(3), -5);
    }

    private static void ifFailsRefused() {
        Bounds.says(29, "-2; -5: it has failed.");
        Bounds.sameEach(Bounds::busy, "ifFails", -2, (x, l) -> x.ifFails(l), NO_LINKS);
        Bounds.sameEach(Bounds::broken, "ifFails", -2, (x, l) -> x.ifFails(l), NO_LINKS);
        Bounds.sameEach(Bounds::fresh, "ifFails", -2, (x, l) -> x.ifFails(l), 0, -1, 1, Bounds.MAX, Bounds.MIN);
        Bounds.sameEach(Bounds::busy, "ifFails of failed ones", -5, (x, l) -> x.ifFails(l), 0, 4);
        Bounds.sameEach(Bounds::broken, "ifFails of failed ones", -5, (x, l) -> x.ifFails(l), 0, 1, 2, 3, 4);
        SpareRings x = Bounds.broken();
        x.mend(4);
        Bounds.due("ifFails(4) of a mended one", x.ifFails(4), 5);
    }

    private static void worst() {
        Bounds.says(30, "The LINK by whose failing now most would be LOST, the first. NONE: none can fail.");
        Bounds.same(Bounds::fresh, "worst()", -1, x -> x.worst());
        Bounds.same(Bounds::broken, "worst()", -1, x -> x.worst());
        Bounds.same(Bounds::square, "worst()", 4, x -> x.worst());
        SpareRings x = Bounds.broken();
        for (int l = 4; l >= 0; l--) {
            x.mend(l);
            Bounds.due("worst() if but " + l + " has failed", x.worst() >= 0 ? 1 : 0, 1);
            x.fail(l);
        }
        x.mend(3);
        Bounds.due("the only one, by which no more is lost", x.worst(), 3);
        SpareRings like = Bounds.told(Bounds.full(5, 1, 2));
        for (int l = 0; l < 10; l++) {
            Bounds.due("the first of like ones", like.worst(), l);
            like.fail(l);
        }
        Bounds.due("all have failed", like.worst(), -1);
        SpareRings idle = Bounds.told(Bounds.full(4, 1, 0));
        Bounds.due("none would be lost", idle.worst(), 0);
        idle.fail(0);
        Bounds.due("none would be lost, link 0 has failed", idle.worst(), 1);
        SpareRings kept = Bounds.square();
        kept.lay(0);
        Bounds.due("all would be kept", kept.worst(), 0);
        kept.fail(4);
        Bounds.due("links 0, 1, 2 alike", kept.worst(), 0);
        kept.fail(0);
        Bounds.due("links 1 (2 lost), 2 (4), 3 (3)", kept.worst(), 2);
    }

    private static void fresh() {
        Bounds.says(Bounds.TERMS, "FRESH: with COPIES as laid, no LINK failed. TWO: of two unlike LINKS the first one fails, FRESH, then the second one.");
        SpareRings x = Bounds.square();
        x.lay(0);
        int before = x.two(4, 1);
        Bounds.due("two(4, 1)", before, 2);
        int sum = x.twos(0);
        int stands = x.stands();
        x.fail(4);
        x.fail(0);
        Bounds.due("two(4, 1), both failed or not", x.two(4, 1), before);
        Bounds.due("twos(0)", x.twos(0), sum);
        Bounds.due("stands()", x.stands(), stands);
        x.lay(0);
        Bounds.due("two(4, 1) with two copies: link 1's unit takes the one, unit 1 of link 4 stays", x.two(4, 1), 1);
        x.lay(0);
        Bounds.due("two(4, 1) with three", x.two(4, 1), 0);
        x.take(0);
        x.take(0);
        x.take(0);
        Bounds.due("two(4, 1) without", x.two(4, 1), 3);
    }

    private static void two() {
        Bounds.says(31, "How many units are LOST by TWO.");
        int[] work = {1, 1, 1, 0, 2};
        for (int a = 0; a < 5; a++) {
            for (int b = 0; b < 5; b++) {
                if (a != b) {
                    int first = a;
                    int second = b;
                    Bounds.same(Bounds::square, "two(" + a + ", " + b + ")", work[a] + work[b], x -> x.two(first, second));
                    SpareRings x = running();
                    SpareRings y = Bounds.square();
                    y.lay(0);
                    y.lay(0);
                    y.lay(2);
                    y.fail(a);
                    Bounds.due("two(" + a + ", " + b + ") with copies", x.two(a, b), y.fail(b));
                }
            }
        }
        SpareRings most = Bounds.told(Bounds.full(5, 1, 2));
        Bounds.due("two(0, 9)", most.two(0, 9), 4);
        Bounds.due("two(9, 0)", most.two(9, 0), 4);
        SpareRings x = Bounds.told("net nodes 3 rate 0;" + Bounds.link(0, 1, 1, 1) + Bounds.link(1, 2, 1, 0) + Bounds.link(2, 0, 1, 2));
        x.lay(0);
        Bounds.due("two(1, 0): the ring is broken", x.two(1, 0), 1);
        Bounds.due("two(1, 2)", x.two(1, 2), 2);
    }

    /** With these rings laid two(0, 4), say, and two(4, 0) may differ: what fails first takes its path first. */
    private static void eitherWay() {
        Bounds.says(31, "How many units are LOST by TWO.");
        Bounds.says(32, "Of all TWO (each pair either way)");
        int unlike = 0;
        for (int r = 0; r < 7; r++) {
            for (int other = r; other < 7; other++) {
                SpareRings x = Bounds.told(Bounds.full(4, 1, 2));
                x.lay(r);
                x.lay(other);
                int sum = 0;
                int most = -1;
                int which = -1;
                for (int a = 0; a < 6; a++) {
                    for (int b = 0; b < 6; b++) {
                        if (a != b) {
                            SpareRings y = Bounds.told(Bounds.full(4, 1, 2));
                            y.lay(r);
                            y.lay(other);
                            y.fail(a);
                            int lost = y.fail(b);
                            Bounds.due("two(" + a + ", " + b + ") with rings " + r + ", " + other, x.two(a, b), lost);
                            sum += lost;
                            which = lost > most ? 10 * a + b : which;
                            most = Math.max(most, lost);
                            unlike += lost != x.two(b, a) ? 1 : 0;
                        }
                    }
                }
                Bounds.due("twos(0) with rings " + r + ", " + other, x.twos(0), sum);
                Bounds.due("twos(2) with rings " + r + ", " + other, x.twos(2), which);
            }
        }
        Bounds.holds("some pairs lose more the one way", unlike > 0);
    }

    private static void twoRefused() {
        Bounds.says(31, "-2: LINKS, both one.");
        Bounds.sameEach(Bounds::busy, "two, first", -2, (x, l) -> x.two(l, 1), NO_LINKS);
        Bounds.sameEach(Bounds::busy, "two, second", -2, (x, l) -> x.two(1, l), NO_LINKS);
        Bounds.sameEach(Bounds::busy, "two, both", -2, (x, l) -> x.two(l, l), NO_LINKS);
        Bounds.sameEach(Bounds::busy, "two, both one", -2, (x, l) -> x.two(l, l), 0, 1, 2, 3, 4);
        Bounds.sameEach(Bounds::fresh, "two", -2, (x, l) -> x.two(l, 0), 0, 1, -1);
        SpareRings one = Bounds.told("net nodes 2 rate 0;" + Bounds.link(0, 1, 1, 1));
        Bounds.due("two(0, 1) of one link", one.two(0, 1), -2);
        Bounds.due("two(0, 0) of one link", one.two(0, 0), -2);
    }

    private static void twos() {
        Bounds.says(32, "Of all TWO (each pair either way), what 0: how many units are LOST, added, 1: by how many TWO some are,");
        // Each link is in eight pairs, either way: 8 times 5 units; all pairs but none without work: 20.
        Bounds.same(Bounds::square, "twos(0)", 40, x -> x.twos(0));
        Bounds.same(Bounds::square, "twos(1)", 20, x -> x.twos(1));
        Bounds.same(Bounds::broken, "twos(0)", sumOf(Bounds.broken(), 5), x -> x.twos(0));
        Bounds.same(Bounds::fresh, "twos(0)", 0, x -> x.twos(0));
        Bounds.same(Bounds::fresh, "twos(1)", 0, x -> x.twos(1));
        SpareRings most = Bounds.told(Bounds.full(5, 1, 2));
        Bounds.due("twos(0) of all", most.twos(0), 360);
        Bounds.due("twos(1) of all", most.twos(1), 90);
        SpareRings idle = Bounds.told(Bounds.full(5, 1, 0));
        Bounds.due("twos(0) without work", idle.twos(0), 0);
        Bounds.due("twos(1) without work", idle.twos(1), 0);
        SpareRings last = Bounds.told(Bounds.full(5, 1, 0).replace("link 3 4 long 1 work 0", "link 3 4 long 1 work 1"));
        Bounds.due("twos(0), work of link 9", last.twos(0), 18);
        Bounds.due("twos(1), work of link 9", last.twos(1), 18);
        SpareRings x = running();
        Bounds.due("twos(0) with copies", x.twos(0), sumOf(running(), 5));
        int some = 0;
        for (int a = 0; a < 5; a++) {
            for (int b = 0; b < 5; b++) {
                some += a != b && x.two(a, b) > 0 ? 1 : 0;
            }
        }
        Bounds.due("twos(1) with copies", x.twos(1), some);
    }

    private static int sumOf(SpareRings x, int links) {
        int sum = 0;
        for (int a = 0; a < links; a++) {
            for (int b = 0; b < links; b++) {
                sum += a == b ? 0 : x.two(a, b);
            }
        }
        return sum;
    }

    private static void twosWhich() {
        Bounds.says(32, "2: 10 times the first and the second of those by which most are (the first such pair; NONE: fewer than two LINKS).");
        Bounds.same(Bounds::fresh, "twos(2) of no link", -1, x -> x.twos(2));
        String one = "net nodes 3 rate 0;" + Bounds.link(0, 1, 1, 2);
        Bounds.due("twos(2) of one link", Bounds.told(one).twos(2), -1);
        Bounds.due("twos(2) of two links", Bounds.told(one + Bounds.link(1, 2, 1, 0)).twos(2), 1);
        Bounds.due("twos(2) without work", Bounds.told(Bounds.full(5, 1, 0)).twos(2), 1);
        Bounds.same(Bounds::square, "twos(2): links 0 and 4", 4, x -> x.twos(2));
        String idle = "net nodes 5 rate 0;";
        for (int last = 0; last < 2; last++) {
            StringBuilder text = new StringBuilder(idle);
            for (int a = 0; a < 5; a++) {
                for (int b = a + 1; b < 5; b++) {
                    boolean works = b == 4 && (a == 3 || a == 2 && last == 0 || a == 0 && last == 1);
                    text.append(Bounds.link(a, b, 1, works ? 2 : 0));
                }
            }
            Bounds.due("twos(2), two links with work", Bounds.told(text.toString()).twos(2), last == 0 ? 89 : 39);
        }
        SpareRings x = Bounds.told("net nodes 3 rate 0;" + Bounds.link(0, 1, 1, 0) + Bounds.link(1, 2, 1, 0) + Bounds.link(2, 0, 1, 1));
        x.lay(0);
        Bounds.due("twos(2), links 0 and 2", x.twos(2), 2);
        Bounds.due("twos(1), those with link 2", x.twos(1), 4);
    }

    private static void twosRefused() {
        Bounds.says(32, "-2.");
        int[] wrong = {-1, 3, 4, 32, Bounds.MAX, Bounds.MIN};
        Bounds.sameEach(Bounds::busy, "twos", -2, (x, what) -> x.twos(what), wrong);
        Bounds.sameEach(Bounds::fresh, "twos", -2, (x, what) -> x.twos(what), wrong);
    }

    private static void stands() {
        Bounds.says(33, "How many failures (1 and more) of LINKS one behind the other, FRESH, the least number of a LINK that hasn't failed each time, "
                + "till some unit is LOST.");
        for (int l = 0; l < 10; l++) {
            StringBuilder text = new StringBuilder("net nodes 5 rate 0;");
            int number = 0;
            for (int a = 0; a < 5; a++) {
                for (int b = a + 1; b < 5; b++) {
                    text.append(Bounds.link(a, b, 1, number == l ? 1 : 0));
                    number++;
                }
            }
            SpareRings x = Bounds.told(text.toString());
            Bounds.due("work of link " + l, x.link(l, 3), 1);
            Bounds.due("stands(), work of link " + l, x.stands(), l + 1);
        }
        Bounds.same(Bounds::square, "stands() without copies", 1, x -> x.stands());
        Bounds.same(Bounds::broken, "stands() with nine copies of the ring around", 2, x -> x.stands());
        SpareRings x = Bounds.square();
        x.lay(0);
        Bounds.due("stands() with one", x.stands(), 2);
        SpareRings kept = Bounds.told("net nodes 4 rate 0;" + Bounds.link(0, 1, 1, 1) + Bounds.link(1, 2, 1, 0) + Bounds.link(2, 3, 1, 0)
                + Bounds.link(3, 0, 1, 0) + Bounds.link(0, 2, 1, 0));
        Bounds.due("stands() without copies", kept.stands(), 1);
        kept.lay(1);
        Bounds.due("stands(): its path (links 1, 4) breaks", kept.stands(), 2);
    }

    private static void standsNone() {
        Bounds.says(33, "NONE: none is, though all have failed.");
        Bounds.same(Bounds::fresh, "stands() of no link", -1, x -> x.stands());
        Bounds.due("stands() without work", Bounds.told(Bounds.full(5, 1, 0)).stands(), -1);
        Bounds.due("stands(), one link without work", Bounds.told("net nodes 2 rate 0;" + Bounds.link(0, 1, 1, 0)).stands(), -1);
        Bounds.due("stands(), one link with work", Bounds.told("net nodes 2 rate 0;" + Bounds.link(0, 1, 1, 1)).stands(), 1);
        SpareRings idle = Bounds.told(Bounds.full(4, 1, 0));
        for (int l = 0; l < 6; l++) {
            idle.fail(l);
        }
        Bounds.due("stands() if all have failed", idle.stands(), -1);
    }
}
