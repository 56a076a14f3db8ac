/** Promises 27 to 33: where units run, what would be lost. */
public final class FailingTest {
    private static final String FOUR = "net nodes 4 rate 0;link 0 1 long 1 work 1;link 0 2 long 1 work 1;link 0 3 long 1 work 1;"
            + "link 1 2 long 1 work 1;link 1 3 long 1 work 1;link 2 3 long 1 work 1;";

    public static void main(String[] args) {
        runs();
        ifFails();
        twos();
        stands();
        Check.end();
    }

    private static void runs() {
        SpareRings x = Check.told(RingsTest.SQUARE);
        x.lay(0);
        x.lay(0);
        Check.due("runs of one that hasn't failed", x.runs(4, 0, 0), -1);
        x.fail(4);
        x.fail(1);
        // Link 1 breaks unit 0's path (3); it tries ahead of link 4: path 13 of the second copy.
        Check.due("runs(1, 0, 0)", x.runs(1, 0, 0), 0);
        Check.due("runs(1, 0, 1)", x.runs(1, 0, 1), 1);
        Check.due("runs(1, 0, 2)", x.runs(1, 0, 2), 13);
        Check.due("runs(4, 0, 2), lost", x.runs(4, 0, 2), -1);
        Check.due("runs(4, 1, 1)", x.runs(4, 1, 1), 0);
        Check.due("runs(4, 1, 2)", x.runs(4, 1, 2), 12);
        Check.due("lost()", x.lost(), 1);
        Check.due("link(4, 6)", x.link(4, 6), 1);
        Check.due("runs(4, 2, 0)", x.runs(4, 2, 0), -2);
        Check.due("runs(4, -1, 0)", x.runs(4, -1, 0), -2);
        Check.due("runs(3, 0, 0): no work", x.runs(3, 0, 0), -2);
        Check.due("runs(5, 0, 0)", x.runs(5, 0, 0), -2);
        Check.due("runs(-1, 0, 0)", x.runs(-1, 0, 0), -2);
        Check.due("runs(4, 0, 3)", x.runs(4, 0, 3), -2);
        Check.due("runs(4, 0, -1)", x.runs(4, 0, -1), -2);
    }

    private static void ifFails() {
        SpareRings x = Check.told(RingsTest.SQUARE);
        x.lay(0);
        int[] alone = {0, 0, 0, 0, 0};
        for (int l = 0; l < alone.length; l++) {
            Check.due("ifFails(" + l + ")", x.ifFails(l), alone[l]);
        }
        Check.due("worst() of like ones", x.worst(), 0);
        x.fail(4);
        // Each of the others takes one of link 4's two paths; its own unit, too, where it has one.
        int[] more = {2, 2, 2, 1};
        for (int l = 0; l < more.length; l++) {
            Check.due("ifFails(" + l + ") more", x.ifFails(l), more[l]);
        }
        Check.due("ifFails(4)", x.ifFails(4), -5);
        Check.due("ifFails(5)", x.ifFails(5), -2);
        Check.due("ifFails(-1)", x.ifFails(-1), -2);
        Check.due("worst()", x.worst(), 0);
        Check.due("nothing has failed by asking", x.count(4), 16);
        x.undo(1);
        x.fail(3);
        Check.due("worst() with link 3 failed", x.worst(), 0);
        Check.due("ifFails(4): one side is left", x.ifFails(4), 1);
        Check.due("ifFails(0): none is", x.ifFails(0), 1);
        for (int l = 0; l < 5; l++) {
            x.fail(l);
        }
        Check.due("worst() if all have failed", x.worst(), -1);
        SpareRings bare = Check.told(RingsTest.SQUARE);
        Check.due("worst() without copies", bare.worst(), 4);
    }

    private static void twos() {
        SpareRings x = Check.told(RingsTest.SQUARE);
        int[] work = {1, 1, 1, 0, 2};
        Check.due("two(0, 4) without copies", x.two(0, 4), 3);
        int sum = 0;
        for (int a = 0; a < 5; a++) {
            for (int b = 0; b < 5; b++) {
                sum += a == b ? 0 : work[a] + work[b];
            }
        }
        Check.due("twos(0)", x.twos(0), sum);
        Check.due("twos(1)", x.twos(1), 20);
        Check.due("twos(2)", x.twos(2), 4);
        x.fail(0);
        Check.due("two is fresh", x.two(1, 2), 2);
        Check.due("twos is fresh", x.twos(0), sum);
        Check.due("two(1, 1)", x.two(1, 1), -2);
        Check.due("two(5, 1)", x.two(5, 1), -2);
        Check.due("two(1, 5)", x.two(1, 5), -2);
        Check.due("two(-1, 1)", x.two(-1, 1), -2);
        Check.due("twos(3)", x.twos(3), -2);
        Check.due("twos(-1)", x.twos(-1), -2);
        inOrder();
        SpareRings one = Check.told("net nodes 2 rate 0;link 0 1 long 1 work 1;");
        Check.due("twos(0) of one link", one.twos(0), 0);
        Check.due("twos(2) of one link", one.twos(2), -1);
        SpareRings idle = Check.told("net nodes 3 rate 0;link 0 1 long 1 work 0;link 1 2 long 1 work 0;");
        Check.due("twos(1) without work", idle.twos(1), 0);
        Check.due("twos(2) without work", idle.twos(2), 1);
    }

    /** Which one of two fails first can tell. */
    private static void inOrder() {
        SpareRings x = Check.told(FOUR);
        x.lay(2);
        x.lay(4);
        int sum = 0;
        int some = 0;
        int most = -1;
        int worst = -1;
        boolean unlike = false;
        for (int a = 0; a < 6; a++) {
            for (int b = 0; b < 6; b++) {
                if (a != b) {
                    SpareRings y = Check.told(FOUR);
                    y.lay(2);
                    y.lay(4);
                    y.fail(a);
                    int lost = y.fail(b);
                    Check.due("two(" + a + ", " + b + ")", x.two(a, b), lost);
                    sum += lost;
                    some += lost > 0 ? 1 : 0;
                    worst = lost > most ? 10 * a + b : worst;
                    most = Math.max(most, lost);
                    unlike |= lost != x.two(b, a);
                }
            }
        }
        Check.due("twos(0)", x.twos(0), sum);
        Check.due("twos(1)", x.twos(1), some);
        Check.due("twos(2)", x.twos(2), worst);
    }

    private static void stands() {
        SpareRings x = Check.told(FOUR);
        Check.due("stands() without copies", x.stands(), 1);
        x.lay(2);
        Check.due("stands() by one ring", x.stands(), 2);
        x.fail(5);
        x.fail(4);
        Check.due("stands() is fresh", x.stands(), 2);
        SpareRings idle = Check.told("net nodes 3 rate 0;link 0 1 long 1 work 0;link 1 2 long 1 work 0;link 2 0 long 1 work 0;");
        Check.due("stands() without work", idle.stands(), -1);
        SpareRings last = Check.told("net nodes 3 rate 0;link 0 1 long 1 work 0;link 1 2 long 1 work 0;link 2 0 long 1 work 1;");
        last.lay(0);
        Check.due("stands() to the last one", last.stands(), 3);
    }
}
