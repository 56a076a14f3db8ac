/** Promises 5 to 9, 25 and 34 to 37: links, rings, laws, paths, cuts. */
public final class RingsTest {
    static final String SQUARE = "net nodes 4 rate 1;link 0 1 long 2 work 1;link 1 2 long 3 work 1;"
            + "link 2 3 long 1 work 1;link 3 0 long 4 work 0;link 0 2 long 2 work 2;";
    /** A triangle (links 0, 1, 2), a bridge (3) and a node apart. */
    static final String LOOSE = "net nodes 5 rate 0;link 1 0 long 1 work 1;link 2 1 long 1 work 0;"
            + "link 0 2 long 1 work 2;link 2 3 long 9 work 1;";

    public static void main(String[] args) {
        links();
        rings();
        eightNodes();
        allRingsOfFive();
        paths();
        costs();
        may();
        best();
        bareAndBridges();
        cuts();
        Check.end();
    }

    private static void links() {
        SpareRings x = Check.told(LOOSE);
        int[] third = {0, 2, 1, 2, 0, 0, 0};
        for (int what = 0; what < third.length; what++) {
            Check.due("link(2, " + what + ")", x.link(2, what), third[what]);
        }
        Check.due("its second node", x.link(0, 1), 0);
        Check.due("link(4, 0)", x.link(4, 0), -2);
        Check.due("link(-1, 0)", x.link(-1, 0), -2);
        Check.due("link(0, 7)", x.link(0, 7), -2);
        Check.due("link(0, -1)", x.link(0, -1), -2);
        x.lay(0);
        x.lay(0);
        Check.due("uses of two copies", x.link(2, 5), 2);
        Check.due("uses of the bridge", x.link(3, 5), 0);
        x.fail(3);
        Check.due("it has failed", x.link(3, 4), 1);
        Check.due("its lost unit", x.link(3, 6), 1);
        Check.due("one that hasn't", x.link(2, 6), 0);
        SpareRings y = Check.told(SQUARE);
        y.lay(0);
        y.lay(1);
        Check.due("a chord's uses count two", y.link(4, 5), 3);
    }

    private static void rings() {
        SpareRings x = Check.told(SQUARE);
        int[][] rings = {{15, 15, 16, 10, 6, 0}, {19, 7, 0, 7, 3, 0}, {28, 13, 0, 7, 3, 0}};
        Check.due("rings()", x.rings(), 3);
        for (int r = 0; r < rings.length; r++) {
            for (int what = 0; what < 6; what++) {
                Check.due("ring(" + r + ", " + what + ")", x.ring(r, what), rings[r][what]);
            }
            Check.due("ringOf(" + rings[r][0] + ")", x.ringOf(rings[r][0]), r);
        }
        x.lay(2);
        Check.due("its copies", x.ring(2, 5), 1);
        Check.due("ring(3, 0)", x.ring(3, 0), -2);
        Check.due("ring(-1, 0)", x.ring(-1, 0), -2);
        Check.due("ring(0, 6)", x.ring(0, 6), -2);
        Check.due("ring(0, -1)", x.ring(0, -1), -2);
        Check.due("ringOf(0)", x.ringOf(0), -1);
        Check.due("ringOf(31)", x.ringOf(31), -1);
        Check.due("ringOf(-1)", x.ringOf(-1), -1);
        Check.due("use on it", x.use(1, 0), 1);
        Check.due("use of a chord", x.use(0, 4), 2);
        Check.due("use of none", x.use(1, 3), 0);
        Check.due("use(3, 0)", x.use(3, 0), -2);
        Check.due("use(0, 5)", x.use(0, 5), -2);
        Check.due("use(0, -1)", x.use(0, -1), -2);
        // Two triangles that share a node are no ring, nor two apart from one another.
        SpareRings y = Check.told("net nodes 6 rate 0;link 0 1 long 1 work 0;link 1 2 long 1 work 0;link 2 0 long 1 work 0;"
                + "link 2 3 long 1 work 0;link 3 4 long 1 work 0;link 4 2 long 1 work 0;");
        Check.due("rings of two triangles", y.rings(), 2);
        Check.due("the second one", y.ring(1, 0), 56);
        SpareRings z = Check.told("net nodes 6 rate 0;link 0 1 long 1 work 0;link 1 2 long 1 work 0;link 2 0 long 1 work 0;"
                + "link 5 3 long 1 work 0;link 3 4 long 1 work 0;link 4 5 long 1 work 0;");
        Check.due("rings of two apart", z.rings(), 2);
    }

    private static void eightNodes() {
        SpareRings x = Check.told("net nodes 8 rate 0;link 0 1 long 1 work 0;link 1 7 long 1 work 0;link 7 0 long 1 work 0;"
                + "link 7 6 long 1 work 0;link 6 0 long 1 work 0;link 0 2 long 1 work 0;link 0 3 long 1 work 0;"
                + "link 0 4 long 1 work 0;link 0 5 long 1 work 0;");
        Check.due("rings()", x.rings(), 3);
        Check.due("nodes of 0, 1, 7", x.ring(x.ringOf(7), 1), 0x83);
        Check.due("nodes of 0, 6, 7", x.ring(x.ringOf(28), 1), 0xC1);
        Check.due("nodes of 0, 1, 6, 7", x.ring(x.ringOf(27), 1), 0xC3);
        Check.due("its chord", x.ring(x.ringOf(27), 2), 4);
        Check.due("bridges()", x.bridges(), 0x1E0);
        Check.due("cut(0, 7, 1)", x.cut(0, 7, 1), 13);
    }

    static String five(String laws) {
        StringBuilder s = new StringBuilder("net nodes 5 rate 0;");
        for (int a = 0; a < 5; a++) {
            for (int b = a + 1; b < 5; b++) {
                s.append("link ").append(a).append(' ').append(b).append(" long 1 work 1;");
            }
        }
        return s + laws;
    }

    private static void allRingsOfFive() {
        SpareRings x = Check.told(five(""));
        Check.due("rings of five nodes all joined", x.rings(), 37);
        int[] byLinks = new int[11];
        for (int r = 0; r < 37; r++) {
            byLinks[Integer.bitCount(x.ring(r, 0))]++;
            Check.due("links and nodes", Integer.bitCount(x.ring(r, 1)), Integer.bitCount(x.ring(r, 0)));
            Check.holds("the lesser bits are ahead", r == 0 || x.ring(r - 1, 0) < x.ring(r, 0));
        }
        Check.due("triangles", byLinks[3], 10);
        Check.due("rings of four", byLinks[4], 15);
        Check.due("rings of five", byLinks[5], 12);
        Check.due("lay(36)", x.lay(36), 1);
        Check.due("lay(37)", x.lay(37), -11);
    }

    private static void paths() {
        SpareRings x = Check.told(SQUARE);
        Check.due("path(0, 2, 0)", x.path(0, 2, 0), 11);
        Check.due("path(0, 2, 1)", x.path(0, 2, 1), -1);
        Check.due("path(0, 4, 0)", x.path(0, 4, 0), 3);
        Check.due("path(0, 4, 1)", x.path(0, 4, 1), 12);
        Check.due("path(0, 4, 2)", x.path(0, 4, 2), -1);
        Check.due("path(0, 4, max)", x.path(0, 4, Integer.MAX_VALUE), -1);
        Check.due("path(2, 0, 0)", x.path(2, 0, 0), -1);
        Check.due("path(2, 0, -1)", x.path(2, 0, -1), -3);
        Check.due("path(3, 0, -1)", x.path(3, 0, -1), -2);
        Check.due("path(0, 5, 0)", x.path(0, 5, 0), -2);
        Check.due("path(-1, 0, 0)", x.path(-1, 0, 0), -2);
    }

    private static void costBy(String law, int wanted) {
        SpareRings x = Check.told("net nodes 4 rate 2;link 3 1 long 5 work 1;link 1 2 long 5 work 1;link 2 3 long 5 work 1;"
                + "may : long = 15;" + law);
        Check.due("the cost by: " + law, x.ring(0, 3), wanted);
    }

    private static void costs() {
        costBy("", 15);
        costBy("costs:7;", 21);
        costBy("costs:rate;", 6);
        costBy("costs:work*9;", 27);
        costBy("costs:from;", 6);
        costBy("costs:to;", 6);
        costBy("costs:from*10+to;", 31 + 12 + 23);
        costBy("costs:0;", 3);
        costBy("costs:3-9;", 3);
        costBy("costs:100;", 297);
        costBy("costs:99;", 297);
        costBy("costs:1+2*3;", 21);
        costBy("costs:(1+2)*3;", 27);
        costBy("costs:9-3-2;", 12);
        costBy("costs:9-(3-2);", 24);
        costBy("costs:999*999*999-999*999-999*1;", 297);
        costBy("costs:999*999*2-999*999-999-900;", 300 - 3);
        costBy("costs:999*999*2-999*999-999-990;", 3 * 10);
        costBy("costs:0-999*999*2+999*999+999+990+10;", 3);
        costBy("costs:0-999*999*2+999*999+999+999+11;", 30);
        costBy("costs:999*999+999*999-999*999-999-990;", 30);
        costBy("costs:(0-999)*999-999*999+999*999+999+999+11;", 30);
        costBy("costs:if rate=2 then 4 else 5 end;", 12);
        costBy("costs:if rate<2 then 4 else 5 end;", 15);
        costBy("costs:if rate>2 then 4 else if to=2 then 1 else 6 end end*2;", 26);
        costBy("costs:if 1=1 or 1=2 and 1=2 then 1 else 2 end;", 3);
        costBy("costs:if [1=1 or 1=2] and 1=2 then 1 else 2 end;", 6);
        costBy("costs:if not 1=1 or 1=1 then 1 else 2 end;", 3);
        costBy("costs:if not [1=1 or 1=1] then 1 else 2 end;", 6);
        costBy("costs:if not not 1=1 then 1 else 2 end;", 3);
        costBy("costs:5;costs:6;", 18);
    }

    private static void mayBy(String law, int... rings) {
        SpareRings x = Check.told(SQUARE + law);
        Check.due("rings by: " + law, x.rings(), rings.length);
        for (int r = 0; r < rings.length; r++) {
            Check.due("ring(" + r + ", 0) by: " + law, x.ring(r, 0), rings[r]);
            Check.due("ringOf by: " + law, x.ringOf(rings[r]), r);
        }
    }

    private static void may() {
        mayBy("may:1=1;", 15, 19, 28);
        mayBy("may:1=2;");
        mayBy("may:links<4;", 19, 28);
        mayBy("may:chords=1;", 15);
        mayBy("may:long=7;", 19, 28);
        mayBy("may:long=10;", 15);
        mayBy("may:work=4;", 19);
        mayBy("may:work=3;", 15, 28);
        mayBy("may:rate=1;", 15, 19, 28);
        mayBy("may:not rate=1 or work>3;", 19);
        mayBy("may:links=3 and [work=3 or long>7];", 28);
        mayBy("may:1=2;may:links=3 and work<4;", 28);
    }

    private static void best() {
        SpareRings x = Check.told(SQUARE);
        Check.due("best()", x.best(), 0);
        Check.due("best() of two alike", Check.told(SQUARE + "may:links=3;").best(), 0);
        Check.due("best() by another cost", Check.told(SQUARE + "costs:if from=3 then 99 else 2 end;").best(), 1);
        Check.due("best() of none", Check.told(SQUARE + "may:1=2;").best(), -1);
    }

    private static void bareAndBridges() {
        SpareRings x = Check.told(LOOSE);
        Check.due("bare()", x.bare(), 8);
        Check.due("bridges()", x.bridges(), 8);
        x.fail(0);
        Check.due("bridges() with a failed link", x.bridges(), 8);
        SpareRings y = Check.told(SQUARE + "may:long=7 and work=4;");
        Check.due("bare() by a law", y.bare(), 12);
        Check.due("bridges() by a law", y.bridges(), 0);
        SpareRings z = Check.told(SQUARE + "may:links=4;");
        Check.due("bare() with a chord", z.bare(), 0);
        SpareRings line = Check.told("net nodes 3 rate 0;link 0 1 long 1 work 0;link 1 2 long 1 work 0;");
        Check.due("bridges() of a line", line.bridges(), 3);
        Check.due("bare() of a line", line.bare(), 3);
    }

    private static void cuts() {
        SpareRings x = Check.told(SQUARE);
        Check.due("cut(1, 3, 0)", x.cut(1, 3, 0), 2);
        Check.due("cut(1, 3, 1)", x.cut(1, 3, 1), 3);
        Check.due("cut(3, 1, 1)", x.cut(3, 1, 1), 3);
        Check.due("cut(2, 3, 1)", x.cut(2, 3, 1), 12);
        Check.due("cut(2, 0, 1)", x.cut(2, 0, 1), 21);
        Check.due("cut(1, 1, 1)", x.cut(1, 1, 1), -1);
        Check.due("cut(1, 1, 2)", x.cut(1, 1, 2), -2);
        Check.due("cut(4, 4, 0)", x.cut(4, 4, 0), -2);
        Check.due("cut(0, -1, 0)", x.cut(0, -1, 0), -2);
        Check.due("cut(0, 1, -1)", x.cut(0, 1, -1), -2);
        SpareRings y = Check.told(LOOSE);
        Check.due("cut to a node apart: how many", y.cut(0, 4, 0), 0);
        Check.due("cut to a node apart: which", y.cut(0, 4, 1), 0);
        Check.due("cut over the bridge", y.cut(0, 3, 1), 8);
        Check.due("cut of five nodes", Check.told(five("")).cut(0, 4, 1), 15);
    }
}
