import java.nio.charset.StandardCharsets;
import java.util.Arrays;

/** Boundary cases of promises 1 to 4, the tape and the net as a whole. */
final class BoundsText {
    private static final String HEAD = "net nodes 4 rate 2;";
    private static final int BLANKS = 0x20202020;

    private BoundsText() {
    }

    static void all() {
        newObject();
        twentyBytes();
        highestFirst();
        tapeIsFull();
        refusedFeedLeavesTheTape();
        firstBytesAreTheNet();
        tapeIsEmptyThen();
        nothingIsLeft();
        lines();
        allStaysWithAFault();
        outOfTheTape();
        thirtyLessTheFault();
        latestFault();
        faultOfOthers();
        textOf900();
        withoutAText();
    }

    private static void newObject() {
        Bounds.says(1, "1 NODE, no LINKS.");
        SpareRings x = new SpareRings();
        Bounds.due("NONE", SpareRings.NONE, -1);
        Bounds.due("count(0)", x.count(0), 1);
        Bounds.due("count(1)", x.count(1), 0);
        Bounds.due("node 0 is there", x.cut(0, 0, 0), -1);
        Bounds.due("node 1 isn't", x.cut(0, 1, 0), -2);
        Bounds.due("node -1 isn't", x.cut(-1, 0, 0), -2);
        Bounds.due("link 0 isn't", x.link(0, 0), -2);
        Bounds.due("all else is 0", x.count(2) + x.count(3) + x.count(4) + x.count(5) + x.count(6) + x.count(7), 0);
    }

    private static int feedBlanks(SpareRings x) {
        return x.feed(BLANKS, BLANKS, BLANKS, BLANKS, BLANKS);
    }

    private static SpareRings withBlanks(int times) {
        SpareRings x = new SpareRings();
        for (int i = 0; i < times; i++) {
            feedBlanks(x);
        }
        return x;
    }

    private static void twentyBytes() {
        Bounds.says(2, "Twenty bytes come behind those on THE TAPE");
        SpareRings x = new SpareRings();
        Bounds.due("nothing at first", x.count(7), 0);
        Bounds.due("feed", Check.feed(x, "net nodes 7 rate 6;l".getBytes()), 20);
        Bounds.due("count(7)", x.count(7), 20);
        Bounds.due("feed", Check.feed(x, "ink 6 5 long 8 work 1".getBytes()), 60);
        Bounds.due("feed of zeros", x.feed(0, 0, 0, 0, 0), 80);
        Bounds.due("net(40) over both", x.net(40), -32);
        Bounds.due("where the first forty end", x.fault(1), 40);
        Check.feed(x, "net nodes 7 rate 6;l".getBytes());
        Check.feed(x, "ink 6 5 long 8 wo".getBytes());
        Check.feed(x, "   ".getBytes());
        Bounds.due("net(37): a cut word", x.net(37), -32);
        Bounds.due("its place", x.fault(1), 35);
        Check.feed(x, "net nodes 7 rate 6;l".getBytes());
        Check.feed(x, "ink 6 5 long 8 work ".getBytes());
        Check.feed(x, "1;".getBytes());
        Bounds.due("net(42) over three", x.net(42), 2);
        Bounds.due("the link's first node", x.link(0, 0), 6);
        Bounds.due("how long it is", x.link(0, 2), 8);
    }

    private static void highestFirst() {
        Bounds.says(2, "the highest of each int first: how many it has.");
        for (int i = 0; i < 20; i++) {
            byte[] text = new byte[20];
            Arrays.fill(text, (byte) ' ');
            text[i] = (byte) 0x80;
            SpareRings x = new SpareRings();
            Bounds.due("feed with a high bit at " + i, Check.feed(x, text), 20);
            Bounds.due("net(20)", x.net(20), -31);
            Bounds.due("its place", x.fault(1), i);
        }
        SpareRings x = new SpareRings();
        Bounds.due("feed of the text", x.feed(0x6e657420, 0x6e6f6465, 0x73203820, 0x72617465, 0x20393b0a), 20);
        Bounds.due("net(20)", x.net(20), 1);
        Bounds.due("nodes", x.count(0), 8);
        Bounds.due("rate", x.count(2), 9);
        Bounds.due("feed of the least", x.feed(Bounds.MIN, Bounds.MIN, Bounds.MIN, Bounds.MIN, Bounds.MIN), 20);
        Bounds.due("feed of -1", x.feed(-1, -1, -1, -1, -1), 40);
        Bounds.due("feed of the largest", x.feed(Bounds.MAX, Bounds.MAX, Bounds.MAX, Bounds.MAX, Bounds.MAX), 60);
    }

    private static void tapeIsFull() {
        Bounds.says(2, "-5: it would have more than 900.");
        SpareRings x = withBlanks(43);
        Bounds.due("feed to 880", feedBlanks(x), 880);
        Bounds.due("feed to 900", feedBlanks(x), 900);
        Bounds.due("feed beyond", feedBlanks(x), -5);
        Bounds.due("feed beyond again", x.feed(-1, -1, -1, -1, -1), -5);
        Bounds.due("count(7)", x.count(7), 900);
        Bounds.same(() -> withBlanks(45), "feed beyond 900", -5, y -> y.feed(1, 2, 3, 4, 5));
        Bounds.due("net(0) empties it", x.net(0), -32);
        Bounds.due("feed then", feedBlanks(x), 20);
    }

    private static void refusedFeedLeavesTheTape() {
        Bounds.says(2, "-5: it would have more than 900.");
        SpareRings x = new SpareRings();
        Check.feed(x, Arrays.copyOf("net nodes 3 rate 4;".getBytes(), 20));
        for (int i = 1; i < 45; i++) {
            feedBlanks(x);
        }
        Bounds.due("feed beyond", x.feed(-1, -1, -1, -1, -1), -5);
        Bounds.due("the first twenty are there still: byte 19 is 0", x.net(900), -31);
        Bounds.due("its place", x.fault(1), 19);
        Check.feed(x, "net nodes 3 rate 4; ".getBytes());
        for (int i = 1; i < 45; i++) {
            feedBlanks(x);
        }
        Bounds.due("feed beyond", x.feed(-1, -1, -1, -1, -1), -5);
        Bounds.due("net(900)", x.net(900), 1);
        Bounds.due("rate", x.count(2), 4);
    }

    private static void firstBytesAreTheNet() {
        Bounds.says(3, "The first n bytes of THE TAPE (which is empty then) are THE NET, no COPIES, none failed, nothing can be UNDONE");
        String text = HEAD + "link 0 1 long 9 work 1;";
        byte[] bytes = (text + "link 1 0 long 1 work 1;").getBytes();
        int n = text.length();
        int[] cuts = {n - 1, n, n + 1, bytes.length};
        int[] answers = {-32, 2, -32, -33};
        for (int i = 0; i < cuts.length; i++) {
            SpareRings x = new SpareRings();
            Check.feed(x, bytes);
            Bounds.due("net(" + cuts[i] + ")", x.net(cuts[i]), answers[i]);
        }
        SpareRings x = Bounds.busy();
        Bounds.holds("copies, failed links, undone calls", x.count(3) > 0 && x.count(4) > 0 && x.count(6) > 0);
        Bounds.due("net(20) of what was on the tape", x.net(20), 1);
        Bounds.due("no copies", x.count(3), 0);
        Bounds.due("none failed", x.count(4), 0);
        Bounds.due("none can be undone", x.count(6), 0);
        Bounds.due("undo(1)", x.undo(1), -3);
        Bounds.due("its nodes", x.count(0), 2);
        Bounds.due("its rate", x.count(2), 7);
        Bounds.due("no links", x.count(1), 0);
        sameNetTwice();
    }

    private static void sameNetTwice() {
        SpareRings x = Bounds.square();
        x.lay(0);
        x.fail(0);
        x.rate(9);
        Bounds.due("the same net again", Bounds.tell(x, Bounds.SQUARE), 6);
        Bounds.due("no copies of ring 0", x.ring(0, 5), 0);
        Bounds.due("no copies", x.count(3), 0);
        Bounds.due("link 0 hasn't failed", x.link(0, 4), 0);
        Bounds.due("fail(0) can be", x.fail(0), 1);
        Bounds.due("its rate as told", x.count(2), 1);
        Bounds.due("one call can be undone", x.count(6), 1);
    }

    private static void tapeIsEmptyThen() {
        Bounds.says(3, "(which is empty then)");
        SpareRings x = new SpareRings();
        Check.feed(x, (HEAD + HEAD).getBytes());
        Bounds.due("count(7)", x.count(7), 40);
        Bounds.due("net(19)", x.net(19), 1);
        Bounds.due("the rest is gone", x.count(7), 0);
        Bounds.due("net(1)", x.net(1), -3);
        Bounds.due("with a fault", Bounds.tell(x, HEAD + "link 0 0"), -33);
        Bounds.due("the rest is gone", x.count(7), 0);
        Bounds.due("net(1)", x.net(1), -3);
        Bounds.due("feed begins anew", Check.feed(x, new byte[20]), 20);
    }

    private static void nothingIsLeft() {
        Bounds.says(3, "The first n bytes of THE TAPE");
        SpareRings x = new SpareRings();
        Bounds.due("net(0) of nothing", x.net(0), -32);
        Bounds.due("its fault is at the text's end", x.fault(1), 0);
        feedBlanks(x);
        Bounds.due("net(0) of twenty", x.net(0), -32);
        Bounds.due("its place", x.fault(1), 0);
        Bounds.due("the twenty are gone", x.count(7), 0);
    }

    private static void lines() {
        Bounds.says(3, "how many LINES (net, too; all stays with a FAULT).");
        Check.good(HEAD, 1);
        Check.good(HEAD + "costs:1;", 2);
        Check.good(HEAD + "costs:1;may:1=1;link 0 1 long 1 work 1;costs:2;", 5);
        StringBuilder many = new StringBuilder(HEAD);
        int lines = 1;
        while (many.length() + 8 <= 900) {
            many.append("costs:1;");
            lines++;
        }
        Bounds.due("lines of a long text", lines, 111);
        Check.good(many.toString(), lines);
        Check.good(Bounds.full(5, 1, 0), 11);
    }

    private static void allStaysWithAFault() {
        Bounds.says(3, "all stays with a FAULT");
        String[] faulty = {"", "net", "net nodes 8 rate 9", HEAD + "link 0 1 long 1 work 1;;", HEAD + HEAD, HEAD + "\u0000",
            Bounds.full(5, 1, 0) + "link", HEAD + "costs:(((((((1)))))));", HEAD + "may:1=2;costs:99;link 0 1 long 1 work 3;"};
        for (String text : faulty) {
            SpareRings x = Bounds.busyWithoutTape();
            Bounds.holds("a fault in: " + text, Bounds.tell(x, text) < -30);
            Bounds.due("count(7)", x.count(7), 0);
            Check.alike("behind a fault: " + text, stateOf(x), stateOf(Bounds.busyWithoutTape()));
        }
    }

    /** A look without what tells of faults. */
    private static String stateOf(SpareRings x) {
        return Bounds.look(x).replaceAll("(fault|place) -?\\d+, ", "");
    }

    private static void outOfTheTape() {
        Bounds.says(3, "-3: n is below 0 or above what there is (THE TAPE stays);");
        SpareRings empty = new SpareRings();
        Bounds.due("net(1) of none", empty.net(1), -3);
        Bounds.due("net(-1) of none", empty.net(-1), -3);
        Bounds.sameEach(Bounds::fresh, "net", -3, (x, n) -> x.net(n), 1, -1, 900, Bounds.MAX, Bounds.MIN);
        Bounds.sameEach(Bounds::busy, "net", -3, (x, n) -> x.net(n), 21, 40, -1, -20, 900, 901, Bounds.MAX, Bounds.MIN);
        Bounds.sameEach(() -> withBlanks(45), "net", -3, (x, n) -> x.net(n), 901, -1, 920, Bounds.MAX, Bounds.MIN);
        SpareRings x = Bounds.busy();
        Bounds.due("net(21)", x.net(21), -3);
        Bounds.due("net(20)", x.net(20), 1);
        Bounds.due("net(900) of 900", withBlanks(45).net(900), -32);
    }

    private static void thirtyLessTheFault() {
        Bounds.says(3, "-30 less the FAULT.");
        String[] texts = {"?", "rate", "net nodes 9", Bounds.full(5, 1, 0) + "link"};
        for (int kind = 1; kind <= 4; kind++) {
            SpareRings x = new SpareRings();
            Bounds.due("net of: " + texts[kind - 1], Bounds.tell(x, texts[kind - 1]), -30 - kind);
            Bounds.due("fault(0)", x.fault(0), kind);
        }
    }

    private static void latestFault() {
        Bounds.says(4, "Of the latest net() that was read, what 0: its FAULT (0), 1: its place (NONE).");
        SpareRings x = new SpareRings();
        faultIs(x, "none was read", 0, -1);
        x.net(1);
        faultIs(x, "net(1) wasn't read", 0, -1);
        Bounds.tell(x, "net nodes 9");
        faultIs(x, "a fault", 3, 10);
        x.net(1);
        x.net(-1);
        faultIs(x, "net(1) wasn't read", 3, 10);
        x.feed(0, 0, 0, 0, 0);
        faultIs(x, "feed reads nothing", 3, 10);
        x.net(20);
        faultIs(x, "a later one", 1, 0);
        Bounds.tell(x, HEAD);
        faultIs(x, "none", 0, -1);
        Bounds.tell(x, HEAD + ";");
        faultIs(x, "a fault again", 2, 19);
        byte[] last = new byte[900];
        Arrays.fill(last, (byte) ' ');
        System.arraycopy(HEAD.getBytes(), 0, last, 0, HEAD.length());
        last[899] = '?';
        Check.feed(x, last);
        Bounds.due("net(900) with a fault in its last byte", x.net(900), -31);
        faultIs(x, "the last place of all", 1, 899);
    }

    private static void faultIs(SpareRings x, String when, int kind, int place) {
        Bounds.due("fault(0), " + when, x.fault(0), kind);
        Bounds.due("fault(1), " + when, x.fault(1), place);
    }

    private static void faultOfOthers() {
        Bounds.says(4, "NONE for others.");
        int[] others = {-1, 2, 3, 32, Bounds.MAX, Bounds.MIN};
        Bounds.sameEach(Bounds::fresh, "fault", -1, (x, n) -> x.fault(n), others);
        Bounds.sameEach(Bounds::busy, "fault", -1, (x, n) -> x.fault(n), others);
        Bounds.same(Bounds::busy, "fault(0)", 3, x -> x.fault(0));
        Bounds.same(Bounds::busy, "fault(1)", 10, x -> x.fault(1));
    }

    private static void textOf900() {
        Bounds.says(Bounds.TERMS, "THE NET is a TEXT of at most 900 bytes");
        for (int length = 899; length <= 901; length++) {
            byte[] text = new byte[length];
            Arrays.fill(text, (byte) ' ');
            byte[] head = (HEAD + "costs:1").getBytes(StandardCharsets.ISO_8859_1);
            System.arraycopy(head, 0, text, 0, head.length);
            text[length - 1] = ';';
            SpareRings x = new SpareRings();
            Bounds.due("feed of " + length, Check.feed(x, text), length > 900 ? -5 : 900);
            Bounds.due("net(" + length + ")", x.net(length), length > 900 ? -3 : 2);
        }
    }

    private static void withoutAText() {
        Bounds.says(Bounds.TERMS, "(without one: 1 NODE, RATE 0, no LINKS)");
        SpareRings x = new SpareRings();
        Bounds.due("nodes", x.count(0), 1);
        Bounds.due("rate", x.count(2), 0);
        Bounds.due("links", x.count(1), 0);
        Bounds.due("copies", x.count(3), 0);
        Bounds.due("lines", x.count(8), 0);
        Bounds.due("work", x.count(5), 0);
        Bounds.due("rings", x.rings(), 0);
        Bounds.due("rate(9)", x.rate(9), 0);
        Bounds.due("rate", x.count(2), 9);
        Bounds.due("a faulty text is none", Bounds.tell(x, "net nodes 2 rate 3"), -32);
        Bounds.due("nodes", x.count(0), 1);
        Bounds.due("rate", x.count(2), 9);
    }
}
