import java.util.ArrayList;
import java.util.List;
import java.util.Random;

/** Promises 19 to 26 and 44: covers, what is to be laid yet, the bound. */
public final class CoversTest {
    private static final String TRIANGLE =
            "net nodes 3 rate 1;link 0 1 long 2 work 1;link 1 2 long 3 work 2;link 2 0 long 4 work 0;";
    /** Two triangles with one link (0) in common, and the ring around both. */
    private static final String KITE = "net nodes 4 rate 0;link 0 1 long 1 work 2;link 1 2 long 1 work 1;"
            + "link 2 0 long 1 work 1;link 1 3 long 1 work 1;link 3 0 long 1 work 1;";

    public static void main(String[] args) {
        laid();
        yet();
        beyondNine();
        bounds();
        ways();
        spares();
        lists();
        listsInOrder();
        sameRingTwice();
        whateverWasAsked();
        byAllCovers();
        Check.end();
    }

    private static void laid() {
        SpareRings x = Check.told(TRIANGLE);
        Check.due("isCover()", x.isCover(), 0);
        Check.due("cost()", x.cost(), 0);
        x.lay(0);
        Check.due("isCover() by one", x.isCover(), 0);
        Check.due("cost() of one", x.cost(), 9);
        x.lay(0);
        Check.due("isCover() by two", x.isCover(), 1);
        Check.due("cost() of two", x.cost(), 18);
        x.fail(1);
        Check.due("isCover() with a failed link", x.isCover(), 1);
        SpareRings y = Check.told(TRIANGLE + "costs:rate;");
        y.lay(0);
        y.rate(5);
        Check.due("cost() by the rate", y.cost(), 15);
    }

    private static void yet() {
        SpareRings x = Check.told(TRIANGLE);
        Check.due("yet(0, 0)", x.yet(0, 0), 18);
        Check.due("yet(0, 1)", x.yet(0, 1), 2);
        Check.due("among(0, 0)", x.among(0, 0), 2);
        x.lay(0);
        Check.due("yet(0, 0) with one", x.yet(0, 0), 9);
        Check.due("among(1, 0)", x.among(1, 0), 1);
        Check.due("yet(2, 0)", x.yet(2, 0), -2);
        Check.due("yet(-1, 0)", x.yet(-1, 0), -2);
        Check.due("yet(0, 2)", x.yet(0, 2), -2);
        Check.due("yet(0, -1)", x.yet(0, -1), -2);
        Check.due("among(0, 1)", x.among(0, 1), -2);
        Check.due("among(0, -1)", x.among(0, -1), -2);
        Check.due("among(2, 0)", x.among(2, 0), -2);
        SpareRings none = Check.told(RingsTest.LOOSE);
        Check.due("yet(1, 0) that can't be", none.yet(1, 0), -1);
        Check.due("among(1, 0) that can't be", none.among(1, 0), -1);
        Check.due("yet(1, 2) that can't be", none.yet(1, 2), -2);
        Check.due("among(1, 1) that can't be", none.among(1, 1), -2);
        // The ring around (30) keeps link 0 as a chord twice: cost 4; two triangles: cost 6.
        SpareRings kite = Check.told(KITE);
        Check.due("ring(2, 0)", kite.ring(2, 0), 30);
        Check.due("yet(0, 0) of the kite", kite.yet(0, 0), 4);
        Check.due("among(0, 2)", kite.among(0, 2), 1);
        Check.due("yet(1, 1) by triangles alone", Check.told(KITE + "may:links=3;").yet(1, 1), 2);
        // A dear link around, without work: the fewest is one ring still, the cheapest two.
        SpareRings apart = Check.told("net nodes 5 rate 0;link 0 1 long 1 work 1;link 1 2 long 1 work 1;link 2 3 long 9 work 0;"
                + "link 3 4 long 1 work 1;link 4 0 long 1 work 1;link 0 2 long 1 work 0;link 3 0 long 1 work 0;");
        Check.due("yet(1, 1): around", apart.yet(1, 1), 1);
        Check.due("yet(1, 0): its cost", apart.yet(1, 0), 13);
        Check.due("among(1, 0)", apart.among(1, apart.ringOf(31)), 1);
        Check.due("yet(0, 1): two triangles", apart.yet(0, 1), 2);
        Check.due("yet(0, 0): their cost", apart.yet(0, 0), 6);
        Check.due("among(0, 0)", apart.among(0, apart.ringOf(31)), 0);
        Check.due("among of the one", apart.among(0, apart.ringOf(35)), 1);
        Check.due("among of the other", apart.among(0, apart.ringOf(88)), 1);
    }

    /** Twice the first ring (3 each) is cheaper than the ring around once (8), though fewest isn't. */
    private static void sameRingTwice() {
        SpareRings x = Check.told("net nodes 4 rate 0;link 0 1 long 1 work 2;link 0 2 long 1 work 0;link 0 3 long 3 work 0;"
                + "link 1 2 long 1 work 0;link 1 3 long 3 work 0;link 2 3 long 3 work 0;");
        Check.due("ring(0, 3)", x.ring(0, 3), 3);
        Check.due("yet(0, 0)", x.yet(0, 0), 6);
        Check.due("among(0, 0)", x.among(0, 0), 2);
        Check.due("yet(1, 1)", x.yet(1, 1), 1);
        Check.due("among(1, 2)", x.among(1, x.ringOf(30)), 1);
    }

    /** What was asked ahead, by another aim, rate or with other copies, changes no answer. */
    private static void whateverWasAsked() {
        String text = "net nodes 5 rate 0;link 0 1 long 3 work 2;link 0 2 long 7 work 1;link 0 3 long 2 work 2;link 0 4 long 5 work 2;"
                + "link 1 2 long 1 work 2;link 1 3 long 8 work 1;link 1 4 long 4 work 2;link 2 3 long 9 work 2;link 2 4 long 6 work 1;"
                + "link 3 4 long 2 work 2;costs:if rate<5 then long*(rate+1) else 30-long*rate end;";
        SpareRings x = Check.told(text);
        Random random = new Random(8);
        for (int i = 0; i < 150; i++) {
            int rate = random.nextInt(10);
            x.rate(rate);
            if (random.nextInt(3) == 0) {
                x.undo(Math.min(x.count(6), 1 + random.nextInt(3)));
            }
            if (random.nextBoolean()) {
                x.lay(random.nextInt(37));
            }
            SpareRings y = Check.told(text);
            y.rate(x.count(2));
            for (int r = 0; r < 37; r++) {
                for (int n = x.ring(r, 5); n > 0; n--) {
                    y.lay(r);
                }
            }
            for (int aim = 0; aim < 2; aim++) {
                Check.due("yet(" + aim + ", 0)", x.yet(aim, 0), y.yet(aim, 0));
                Check.due("yet(" + aim + ", 1)", x.yet(aim, 1), y.yet(aim, 1));
            }
        }
    }

    private static void beyondNine() {
        SpareRings x = Check.told(TRIANGLE + "may:rate<9;");
        for (int i = 0; i < 9; i++) {
            x.lay(0);
        }
        Check.due("yet(1, 1) of a cover", x.yet(1, 1), 0);
        Check.due("among(1, 0) of a cover", x.among(1, 0), 0);
    }

    private static void bounds() {
        SpareRings x = Check.told(TRIANGLE);
        Check.due("bound(0)", x.bound(0), 9);
        Check.due("bound(1)", x.bound(1), 1);
        x.lay(0);
        Check.due("bound(0) with one laid", x.bound(0), 9);
        Check.due("bound(2)", x.bound(2), -2);
        Check.due("bound(-1)", x.bound(-1), -2);
        Check.due("bound(0) of none", Check.told(RingsTest.LOOSE).bound(0), -1);
        Check.due("bound(2) of none", Check.told(RingsTest.LOOSE).bound(2), -2);
        SpareRings y = Check.told(RingsTest.SQUARE);
        Check.due("bound(0) of the square", y.bound(0), 25);
        Check.due("bound(1) of the square", y.bound(1), 3);
        // Of unlike rings: links 0, 1, 4 by 19 (6 of 3), link 2 by 15 (105 of 6).
        SpareRings z = Check.told(RingsTest.SQUARE + "costs:if from=3 then 99 else 2 end;");
        Check.due("bound(0) by unlike rings", z.bound(0), 51);
        Check.due("bound(1) by unlike rings", z.bound(1), 2);
    }

    private static void ways() {
        SpareRings x = Check.told(RingsTest.SQUARE);
        int[] ways = {0, 1, 4, 8};
        x.lay(0);
        for (int n = 0; n <= 3; n++) {
            Check.due("covers(" + n + ")", x.covers(n), ways[n]);
        }
        Check.due("covers(-1)", x.covers(-1), -3);
        Check.due("covers(4)", x.covers(4), -3);
        SpareRings none = Check.told("net nodes 3 rate 0;link 0 1 long 1 work 0;link 1 2 long 1 work 0;link 2 0 long 1 work 0;");
        Check.due("covers(0) without work", none.covers(0), 1);
        Check.due("covers(3) without work", none.covers(3), 1);
    }

    private static void spares() {
        SpareRings x = Check.told(RingsTest.SQUARE);
        x.lay(1);
        Check.due("spare() without a cover", x.spare(), 0);
        x.lay(2);
        Check.due("spare() of just enough", x.spare(), 0);
        x.lay(0);
        Check.due("spare()", x.spare(), 7);
        x.lay(0);
        x.take(1);
        Check.due("spare() of two alike", x.spare(), 5);
        SpareRings many = Check.told(RingsTest.five(""));
        for (int r = 0; r < 37; r++) {
            many.lay(r);
        }
        Check.due("spare() up to ring 30", many.spare(), Integer.MAX_VALUE);
    }

    private static void lists() {
        SpareRings x = Check.told(RingsTest.SQUARE + "may:links=3;");
        Check.due("lists(4, 0)", x.lists(4, 0), -2);
        Check.due("lists(0, 2)", x.lists(0, 2), -2);
        Check.due("lists(0, 0)", x.lists(0, 0), -6);
        // Deeds 0 and 1 can't be, 100 to 102 can: the tray shows what came by what it judges.
        Check.fill(x, 0, 2, 100, 101, 102);
        Check.due("lists(0, 0)", x.lists(0, 0), 2);
        Check.due("the first number is a ring's now", x.judge(0, 0), 0);
        Check.fill(x, 0, 2, 0, 0, 0);
        Check.due("lists(0, 1)", x.lists(0, 1), 2);
        Check.due("rates of the two (0, 1) and the rest", x.rates(0), 0);
        Check.fill(x, 1, 0, 100);
        Check.due("lists into one place", x.lists(1, 0), 1);
        Check.fill(x, 1, 0);
        Check.due("lists into none", x.lists(1, 0), 0);
        SpareRings none = Check.told(RingsTest.LOOSE);
        Check.due("numbers(0, 0, 1)", none.numbers(0, 0, 1), 0);
        Check.due("lists that can't be", none.lists(0, 0), -5);
    }

    /**
     * Rings 10 to 19 are deeds, too, of the rates 0 to 9: nets of which just such are to be laid show
     * by these which numbers came, in which order.
     */
    private static void listsInOrder() {
        Random random = new Random(2);
        int seen = 0;
        for (int i = 0; i < 3000 && seen < 40; i++) {
            StringBuilder text = new StringBuilder("net nodes 5 rate 0;");
            for (int a = 0; a < 5; a++) {
                for (int b = a + 1; b < 5; b++) {
                    text.append("link ").append(a).append(' ').append(b).append(" long ").append(1 + random.nextInt(9))
                            .append(" work ").append(random.nextInt(3)).append(';');
                }
            }
            SpareRings x = Check.told(text.toString());
            List<Integer> rings = new ArrayList<>();
            for (int r = 0; r < x.rings(); r++) {
                for (int n = x.among(0, r); n > 0; n--) {
                    rings.add(r);
                }
            }
            if (rings.size() > 1 && rings.get(0) >= 10 && rings.get(1) <= 19) {
                seen++;
                int done = 0;
                while (done < rings.size() && rings.get(done) <= 19) {
                    done++;
                }
                Check.due("numbers(0, 2, 40)", x.numbers(0, 2, 40), 0);
                Check.due("lists(0, 0)", x.lists(0, 0), rings.size());
                Check.due("numbers that are deeds", x.judge(0, 0), done);
                Check.due("perform(0)", x.perform(0), done);
                Check.due("the rate", x.count(2), rings.get(done - 1) - 10);
            }
        }
        Check.holds("some such nets", seen >= 10);
    }

    // ---- what is to be laid by the document's very words: all covers that are like are looked at

    private static void byAllCovers() {
        Random random = new Random(4);
        for (int i = 0; i < 300; i++) {
            StringBuilder text = new StringBuilder("net nodes 4 rate 0;");
            for (int a = 0; a < 4; a++) {
                for (int b = a + 1; b < 4; b++) {
                    if (random.nextInt(6) > 0) {
                        text.append("link ").append(a).append(' ').append(b).append(" long ").append(1 + random.nextInt(3))
                                .append(" work ").append(random.nextInt(3)).append(';');
                    }
                }
            }
            if (random.nextInt(2) == 0) {
                text.append("may:links=3;");
            }
            SpareRings x = Check.told(text.toString());
            if (x.rings() > 0 && random.nextBoolean()) {
                x.lay(random.nextInt(x.rings()));
            }
            for (int aim = 0; aim < 2; aim++) {
                if (x.yet(aim, 0) >= 0) {
                    compare(x, aim, text.toString());
                }
            }
        }
    }

    private static void compare(SpareRings x, int aim, String text) {
        int links = x.count(1);
        int[] needs = new int[links];
        for (int l = 0; l < links; l++) {
            needs[l] = x.link(l, 3) - x.link(l, 5);
        }
        List<int[]> covers = new ArrayList<>();
        collect(x, needs, new int[x.rings()], 0, 7, covers);
        int least = Integer.MAX_VALUE;
        for (int[] c : covers) {
            least = Math.min(least, price(x, c, aim));
        }
        List<int[]> like = new ArrayList<>();
        for (int[] c : covers) {
            if (price(x, c, aim) == least) {
                like.add(c);
            }
        }
        int[] laid = choose(x, needs, like);
        for (int r = 0; r < x.rings(); r++) {
            Check.due("among(" + aim + ", " + r + ") of: " + text, x.among(aim, r), laid[r]);
        }
        Check.due("yet(" + aim + ", 0) of: " + text, x.yet(aim, 0), price(x, laid, 0));
        Check.due("yet(" + aim + ", 1) of: " + text, x.yet(aim, 1), price(x, laid, 1));
    }

    private static int price(SpareRings x, int[] copies, int aim) {
        int sum = 0;
        for (int r = 0; r < copies.length; r++) {
            sum += copies[r] * (aim == 0 ? x.ring(r, 3) : 1);
        }
        return sum;
    }

    /** All ways to lay so many copies at most that are a cover. */
    private static void collect(SpareRings x, int[] needs, int[] copies, int first, int left, List<int[]> covers) {
        if (firstNeed(x, needs, copies) < 0) {
            covers.add(copies.clone());
            return;
        }
        for (int r = first; r < copies.length && left > 0; r++) {
            copies[r]++;
            collect(x, needs, copies, r, left - 1, covers);
            copies[r]--;
        }
    }

    private static int firstNeed(SpareRings x, int[] needs, int[] copies) {
        for (int l = 0; l < needs.length; l++) {
            int uses = 0;
            for (int r = 0; r < copies.length; r++) {
                uses += copies[r] * x.use(r, l);
            }
            if (uses < needs[l]) {
                return l;
            }
        }
        return -1;
    }

    private static int[] choose(SpareRings x, int[] needs, List<int[]> like) {
        int[] laid = new int[x.rings()];
        List<int[]> left = like;
        while (firstNeed(x, needs, laid) >= 0) {
            int l = firstNeed(x, needs, laid);
            for (int r = 0; r < laid.length; r++) {
                List<int[]> with = new ArrayList<>();
                for (int[] c : left) {
                    if (c[r] > laid[r]) {
                        with.add(c);
                    }
                }
                if (x.use(r, l) > 0 && !with.isEmpty()) {
                    laid[r]++;
                    left = with;
                    break;
                }
            }
        }
        return laid;
    }
}
