import java.io.IOException;
import java.nio.file.Files;
import java.nio.file.Path;
import java.util.BitSet;
import java.util.Map;
import java.util.TreeMap;
import java.util.function.Supplier;

/**
 * What tests of boundary cases share: each names its promise (0: Terms) and its sentence, which must
 * stand in the document just so; what is asked or refused leaves all that can be seen as it was.
 */
final class Bounds {
    static final int TERMS = 0;
    static final int MIN = Integer.MIN_VALUE;
    static final int MAX = Integer.MAX_VALUE;
    /** A ring of four (15), a chord (4) and the two triangles beside it (19, 28). */
    static final String SQUARE = "net nodes 4 rate 1;link 0 1 long 2 work 1;link 1 2 long 3 work 1;"
            + "link 2 3 long 1 work 1;link 3 0 long 4 work 0;link 0 2 long 2 work 2;";
    private static final Map<Integer, String> SECTIONS = new TreeMap<>();
    private static final Map<Integer, BitSet> NAMED = new TreeMap<>();
    private static String label = "";

    interface Call {
        long on(SpareRings x);
    }

    private Bounds() {
    }

    // ---- sentences

    /** Takes the document's promises, without what their calls look like, and its Terms. */
    static void read(Path document) throws IOException {
        String all = Files.readString(document);
        String[] parts = all.split("\n## ");
        for (String part : parts) {
            if (part.startsWith("Terms")) {
                String terms = part.substring("Terms".length(), part.indexOf("The constants:"));
                take(TERMS, terms.replaceAll("```(text)?|==== \\d\\.", ""));
            } else if (part.startsWith("Promise ")) {
                int number = Integer.parseInt(part.substring("Promise ".length(), part.indexOf(':')));
                String body = part.substring(part.indexOf('\n'));
                take(number, body.replaceAll("(?s)^\\s*`[^`]*`:", ""));
            }
        }
        Check.due("promises in the document", SECTIONS.size(), 48);
    }

    private static void take(int promise, String text) {
        SECTIONS.put(promise, text.replaceAll("\\s+", " ").trim());
        NAMED.put(promise, new BitSet());
    }

    /** The test that begins here is of a sentence, or of a part of one. */
    static void says(int promise, String sentence) {
        label = (promise == TERMS ? "Terms" : "promise " + promise) + " \"" + sentence + "\": ";
        int at = SECTIONS.get(promise).indexOf(sentence);
        Check.holds(label + "stands in the document", at >= 0);
        if (at >= 0) {
            NAMED.get(promise).set(at, at + sentence.length());
        }
    }

    /** Each sign of the promises and Terms, but blanks and signs between, is in a sentence that some test named. */
    static void allAreNamed() {
        for (int promise : SECTIONS.keySet()) {
            String text = SECTIONS.get(promise);
            StringBuilder left = new StringBuilder();
            for (int i = 0; i < text.length(); i++) {
                boolean open = !NAMED.get(promise).get(i) && Character.isLetterOrDigit(text.charAt(i));
                left.append(open ? text.substring(i, i + 1) : left.length() > 0 && left.charAt(left.length() - 1) != ' ' ? " " : "");
            }
            Check.alike("no test names in section " + promise, left.toString().trim(), "");
        }
    }

    // ---- answers

    static void due(String call, long got, long want) {
        Check.due(label + call, got, want);
    }

    static void holds(String what, boolean truth) {
        Check.holds(label + what, truth);
    }

    /** A call on an object that was just made has an answer and changes nothing that can be seen. */
    static void same(Supplier<SpareRings> maker, String name, long want, Call call) {
        SpareRings x = maker.get();
        due(name, call.on(x), want);
        Check.alike(label + name + ": all stays", look(x), look(maker.get()));
    }

    /** The same call with each of some numbers. */
    static void sameEach(Supplier<SpareRings> maker, String name, long want, CallWith call, int... numbers) {
        for (int n : numbers) {
            same(maker, name + " with " + n, want, x -> call.on(x, n));
        }
    }

    interface CallWith {
        long on(SpareRings x, int n);
    }

    static int tell(SpareRings x, String text) {
        return Check.tell(x, text);
    }

    static SpareRings told(String text) {
        SpareRings x = new SpareRings();
        holds("a net in: " + text, tell(x, text) > 0);
        return x;
    }

    static void fill(SpareRings x, int tray, int sort, long... numbers) {
        Check.fill(x, tray, sort, numbers);
    }

    /** All links between so many nodes, each so long, with so much work. */
    static String full(int nodes, int length, int work) {
        StringBuilder s = new StringBuilder("net nodes ").append(nodes).append(" rate 0;");
        for (int a = 0; a < nodes; a++) {
            for (int b = a + 1; b < nodes; b++) {
                s.append(link(a, b, length, work));
            }
        }
        return s.toString();
    }

    static String link(int a, int b, int length, int work) {
        return "link " + a + " " + b + " long " + length + " work " + work + ";";
    }

    /** One ring around all nodes, link l from node l on. */
    static String around(int nodes, int length, int work) {
        StringBuilder s = new StringBuilder("net nodes ").append(nodes).append(" rate 0;");
        for (int n = 0; n < nodes; n++) {
            s.append(link(n, (n + 1) % nodes, length, work));
        }
        return s.toString();
    }

    // ---- objects

    static SpareRings fresh() {
        return new SpareRings();
    }

    static SpareRings square() {
        return told(SQUARE);
    }

    /** Something of all that can stay: copies, failed links, undone calls, trays, images, a fault, bytes on the tape. */
    static SpareRings busy() {
        SpareRings x = busyWithoutTape();
        Check.feed(x, "net nodes 2 rate 7;\n".getBytes());
        return x;
    }

    static SpareRings busyWithoutTape() {
        SpareRings x = told(SQUARE + "may:links=3 or rate<5;costs:long+rate;");
        x.lay(0);
        x.lay(1);
        x.fail(4);
        x.image(0);
        x.lay(2);
        x.fail(0);
        x.rate(3);
        fill(x, 0, 2, 200, 101, 111, 300, 13, 305);
        fill(x, 1, 1, 13, 1012);
        fill(x, 2, 3);
        holds("a fault", tell(x, "net nodes 9 rate 0;") == -33);
        return x;
    }

    /** All links of a busy net have failed, ring 0 has nine copies, ring 1 none, ten calls can be undone. */
    static SpareRings broken() {
        SpareRings x = told(SQUARE);
        for (int i = 0; i < 9; i++) {
            x.lay(0);
        }
        for (int l = 0; l < 5; l++) {
            x.fail(l);
        }
        x.image(1);
        return x;
    }

    // ---- looks

    /** All that can be seen of an object, as a text; what looks last takes the object apart. */
    static String look(SpareRings x) {
        StringBuilder s = new StringBuilder();
        for (int what = 0; what < 9; what++) {
            add(s, "count", x.count(what));
        }
        add(s, "fault", x.fault(0));
        add(s, "place", x.fault(1));
        lookAtNet(s, x);
        for (int tray = 0; tray < 4; tray++) {
            add(s, "tray", tray);
            for (int what = 0; what < 4; what++) {
                add(s, "judge", x.judge(tray, what));
            }
            add(s, "rates", x.rates(tray));
            lookAtSize(s, x, tray);
        }
        for (int n = x.count(6); n > 0 && n <= 10; n--) {
            add(s, "undo", x.undo(1));
            lookBriefly(s, x);
        }
        for (int i = 0; i < 2; i++) {
            add(s, "restore", x.restore(i));
            lookBriefly(s, x);
        }
        add(s, "tape", x.net(x.count(7)));
        add(s, "fault", x.fault(0));
        add(s, "place", x.fault(1));
        lookBriefly(s, x);
        return s.toString();
    }

    private static void add(StringBuilder s, String what, long v) {
        s.append(what).append(' ').append(v).append(", ");
    }

    private static void lookAtNet(StringBuilder s, SpareRings x) {
        for (int l = 0; l < x.count(1); l++) {
            for (int what = 0; what < 7; what++) {
                add(s, "link", x.link(l, what));
            }
            for (int u = 0; u < x.link(l, 3); u++) {
                for (int what = 0; what < 3; what++) {
                    add(s, "runs", x.runs(l, u, what));
                }
            }
        }
        for (int r = 0; r < x.rings(); r++) {
            add(s, "ring", x.ring(r, 0));
            add(s, "cost", x.ring(r, 3));
            add(s, "copies", x.ring(r, 5));
        }
    }

    private static void lookAtSize(StringBuilder s, SpareRings x, int tray) {
        int least = 0;
        int most = 41;
        while (least < most) {
            int i = (least + most) / 2;
            if (x.write(tray, i, 0) == 0) {
                least = i + 1;
            } else {
                most = i;
            }
        }
        add(s, "size", least);
        add(s, "sort", x.write(tray, 0, 0x7F7F7F7F7F7F7F7FL));
    }

    private static void lookBriefly(StringBuilder s, SpareRings x) {
        for (int what = 0; what < 5; what++) {
            add(s, "count", x.count(what));
        }
        add(s, "lost", x.lost());
        add(s, "cost", x.cost());
        add(s, "runs", x.runs(0, 0, 2));
        add(s, "lines", x.count(8));
    }
}
