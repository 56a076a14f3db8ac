import java.math.BigInteger;
import java.util.ArrayDeque;
import java.util.ArrayList;
import java.util.Arrays;
import java.util.Collections;
import java.util.Deque;
import java.util.HashMap;
import java.util.HashSet;
import java.util.List;
import java.util.Map;
import java.util.Set;
import java.util.TreeMap;
import java.util.TreeSet;

/**
 * The document told a second time, slowly and by other ways than the program's: texts by a stack of
 * symbols, laws read anew each time, rings by walks, units as objects, draws one by one.
 */
final class Model {
    static final int NONE = -1;

    // ---- the net's text

    record Token(String text, int place) {
        boolean isNumber() {
            return !text.isEmpty() && Character.isDigit(text.charAt(0));
        }

        int value() {
            return Integer.parseInt(text);
        }
    }

    record Symbol(String name, int within) {
    }

    static final class Fault extends RuntimeException {
        private static final long serialVersionUID = 1L;
        final int kind;
        final int place;

        Fault(int kind, int place) {
            this.kind = kind;
            this.place = place;
        }
    }

    record Link(int a, int b, int far, int work) {
    }

    static final class Net {
        int nodes = 1;
        int rate = 0;
        int lines = 0;
        final List<Link> links = new ArrayList<>();
        List<Token> costs = null;
        List<Token> may = null;
        final Map<Integer, List<Integer>> ringsByRate = new HashMap<>();
    }

    /** Tokens till the end, or till one that can't begin: then its place comes as a negative mark. */
    private static List<Token> tokens(byte[] text) {
        List<Token> all = new ArrayList<>();
        int at = 0;
        while (at < text.length) {
            char c = (char) (text[at] & 255);
            if (c == '\n' || c == ' ') {
                at++;
                continue;
            }
            int end = at + 1;
            if (c >= 'a' && c <= 'z') {
                while (end < text.length && text[end] >= 'a' && text[end] <= 'z') {
                    end++;
                }
            } else if (c >= '0' && c <= '9') {
                while (end < text.length && text[end] >= '0' && text[end] <= '9') {
                    end++;
                }
                if (end - at > 3) {
                    all.add(new Token(null, at));
                    return all;
                }
            } else if (";:+-*()[]=<>".indexOf(c) < 0) {
                all.add(new Token(null, at));
                return all;
            }
            StringBuilder s = new StringBuilder();
            for (int i = at; i < end; i++) {
                s.append((char) text[i]);
            }
            all.add(new Token(s.toString(), at));
            at = end;
        }
        all.add(new Token("", text.length));
        return all;
    }

    static Net parse(byte[] text) {
        Net net = new Net();
        Deque<Symbol> stack = new ArrayDeque<>();
        push(stack, 0, "'net", "'nodes", "#nodes", "'rate", "#rate", "';", "!line", "LINES");
        List<Token> law = null;
        int[] link = new int[4];
        boolean may = false;
        int at = 0;
        List<Token> tokens = tokens(text);
        while (!stack.isEmpty()) {
            Token t = tokens.get(at);
            if (t.text() == null) {
                throw new Fault(1, t.place());
            }
            Symbol s = stack.pop();
            String name = s.name();
            if (name.startsWith("!")) {
                if (name.equals("!line")) {
                    net.lines++;
                } else if (name.equals("!link")) {
                    net.links.add(new Link(link[0], link[1], link[2], link[3]));
                } else if (name.equals("!costs") || name.equals("!may")) {
                    may = name.equals("!may");
                    law = new ArrayList<>();
                } else if (may) {
                    net.may = law;
                    law = null;
                } else {
                    net.costs = law;
                    law = null;
                }
            } else if (name.startsWith("'") || name.startsWith("#")) {
                if (name.startsWith("'") ? !t.text().equals(name.substring(1)) : !t.isNumber()) {
                    throw new Fault(2, t.place());
                }
                if (name.startsWith("#")) {
                    number(net, name, t, link);
                }
                if (name.equals("'link") && net.links.size() == 10) {
                    throw new Fault(4, t.place());
                }
                if (Set.of("'not", "'[", "'(", "'if").contains(name) && s.within() == 6) {
                    throw new Fault(4, t.place());
                }
                if (law != null) {
                    law.add(t);
                }
                at++;
            } else {
                expand(stack, s, t, may);
            }
        }
        return net;
    }

    private static void number(Net net, String name, Token t, int[] link) {
        int v = t.value();
        boolean good = true;
        switch (name) {
            case "#nodes" -> {
                good = v >= 1 && v <= 8;
                net.nodes = v;
            }
            case "#rate" -> {
                good = v <= 9;
                net.rate = v;
            }
            case "#a" -> {
                good = v < net.nodes;
                link[0] = v;
            }
            case "#b" -> {
                good = v < net.nodes && v != link[0];
                for (Link l : net.links) {
                    good &= !(l.a() == link[0] && l.b() == v || l.b() == link[0] && l.a() == v);
                }
                link[1] = v;
            }
            case "#long" -> {
                good = v >= 1 && v <= 9;
                link[2] = v;
            }
            case "#work" -> {
                good = v <= 2;
                link[3] = v;
            }
            default -> {
            }
        }
        if (!good) {
            throw new Fault(3, t.place());
        }
    }

    private static void push(Deque<Symbol> stack, int within, String... names) {
        for (int i = names.length - 1; i >= 0; i--) {
            stack.push(new Symbol(names[i], within));
        }
    }

    private static void expand(Deque<Symbol> stack, Symbol s, Token t, boolean may) {
        int w = s.within();
        String x = t.text();
        switch (s.name()) {
            case "LINES" -> {
                if (x.isEmpty()) {
                    return;
                }
                push(stack, 0, "LINE", "';", "!line", "LINES");
            }
            case "LINE" -> {
                switch (x) {
                    case "link" -> push(stack, 0, "'link", "#a", "#b", "'long", "#long", "'work", "#work", "!link");
                    case "costs" -> push(stack, 0, "'costs", "':", "!costs", "SUM", "!law");
                    case "may" -> push(stack, 0, "'may", "':", "!may", "TRUTH", "!law");
                    default -> throw new Fault(2, t.place());
                }
            }
            case "TRUTH" -> push(stack, w, "BOTH", "ORS");
            case "ORS" -> {
                if (x.equals("or")) {
                    push(stack, w, "'or", "BOTH", "ORS");
                }
            }
            case "BOTH" -> push(stack, w, "UNIT", "ANDS");
            case "ANDS" -> {
                if (x.equals("and")) {
                    push(stack, w, "'and", "UNIT", "ANDS");
                }
            }
            case "UNIT" -> {
                if (x.equals("not")) {
                    stack.push(new Symbol("UNIT", w + 1));
                    push(stack, w, "'not");
                } else if (x.equals("[")) {
                    push(stack, w, "']");
                    stack.push(new Symbol("TRUTH", w + 1));
                    push(stack, w, "'[");
                } else {
                    push(stack, w, "SUM", "SIGN", "SUM");
                }
            }
            case "SIGN" -> {
                if (!Set.of("=", "<", ">").contains(x)) {
                    throw new Fault(2, t.place());
                }
                push(stack, w, "'" + x);
            }
            case "SUM" -> push(stack, w, "TERM", "TERMS");
            case "TERMS" -> {
                if (x.equals("+") || x.equals("-")) {
                    push(stack, w, "'" + x, "TERM", "TERMS");
                }
            }
            case "TERM" -> push(stack, w, "ATOM", "ATOMS");
            case "ATOMS" -> {
                if (x.equals("*")) {
                    push(stack, w, "'*", "ATOM", "ATOMS");
                }
            }
            default -> atom(stack, w, t, may);
        }
    }

    private static void atom(Deque<Symbol> stack, int w, Token t, boolean may) {
        Set<String> words = may ? Set.of("rate", "long", "work", "links", "chords")
                : Set.of("rate", "long", "work", "from", "to");
        if (t.isNumber()) {
            push(stack, w, "#any");
        } else if (t.text().equals("(")) {
            push(stack, w, "')");
            stack.push(new Symbol("SUM", w + 1));
            push(stack, w, "'(");
        } else if (t.text().equals("if")) {
            push(stack, w + 1, "TRUTH", "'then", "SUM", "'else", "SUM", "'end");
            push(stack, w, "'if");
        } else if (words.contains(t.text())) {
            push(stack, w, "'" + t.text());
        } else {
            throw new Fault(2, t.place());
        }
    }

    // ---- laws, read anew each time

    private static final class Worker {
        private final List<Token> law;
        private final Map<String, Integer> words;
        private int at = 0;

        Worker(List<Token> law, Map<String, Integer> words) {
            this.law = law;
            this.words = words;
        }

        private boolean see(String s) {
            if (at < law.size() && law.get(at).text().equals(s)) {
                at++;
                return true;
            }
            return false;
        }

        private static long kept(long v) {
            return v < -1000000 ? -1000000 : v > 1000000 ? 1000000 : v;
        }

        boolean truth() {
            boolean v = both();
            while (see("or")) {
                v = both() || v;
            }
            return v;
        }

        private boolean both() {
            boolean v = unit();
            while (see("and")) {
                v = unit() && v;
            }
            return v;
        }

        private boolean unit() {
            if (see("not")) {
                return !unit();
            }
            if (see("[")) {
                boolean v = truth();
                see("]");
                return v;
            }
            long a = sum();
            String sign = law.get(at++).text();
            long b = sum();
            return sign.equals("=") ? a == b : sign.equals("<") ? a < b : a > b;
        }

        long sum() {
            long v = term();
            while (true) {
                if (see("+")) {
                    v = kept(v + term());
                } else if (see("-")) {
                    v = kept(v - term());
                } else {
                    return v;
                }
            }
        }

        private long term() {
            long v = atom();
            while (see("*")) {
                v = kept(v * atom());
            }
            return v;
        }

        private long atom() {
            if (see("(")) {
                long v = sum();
                see(")");
                return v;
            }
            if (see("if")) {
                boolean which = truth();
                see("then");
                long a = sum();
                see("else");
                long b = sum();
                see("end");
                return which ? a : b;
            }
            Token t = law.get(at++);
            return t.isNumber() ? t.value() : words.get(t.text());
        }
    }

    // ---- the state

    static final class Unit {
        final int link;
        final int u;
        int ring = NONE;
        int copy = NONE;
        int path = 0;

        Unit(int link, int u) {
            this.link = link;
            this.u = u;
        }

        boolean runs() {
            return ring >= 0;
        }

        void loseIt() {
            ring = NONE;
            copy = NONE;
            path = 0;
        }
    }

    /** Copies by the links of rings, as bits. */
    static final class State {
        int rate = 0;
        final TreeMap<Integer, Integer> copies = new TreeMap<>();
        final TreeSet<Integer> failed = new TreeSet<>();
        final List<Unit> units = new ArrayList<>();

        State copy() {
            State s = new State();
            s.rate = rate;
            s.copies.putAll(copies);
            s.failed.addAll(failed);
            for (Unit u : units) {
                Unit v = new Unit(u.link, u.u);
                v.ring = u.ring;
                v.copy = u.copy;
                v.path = u.path;
                s.units.add(v);
            }
            return s;
        }
    }

    record Image(Net net, State state) {
    }

    private final List<Byte> tape = new ArrayList<>();
    private Net net = new Net();
    private State now = new State();
    private final List<State> past = new ArrayList<>();
    private int faultKind = 0;
    private int faultPlace = NONE;
    private final long[][] trays = new long[4][];
    private final int[] sorts = new int[4];
    private final Image[] images = new Image[2];

    private static int bits(Iterable<Integer> numbers) {
        int b = 0;
        for (int n : numbers) {
            b |= 1 << n;
        }
        return b;
    }

    private List<Integer> ringsAt(int rate) {
        return net.ringsByRate.computeIfAbsent(rate, r -> findRings(r));
    }

    private List<Integer> ringsNow() {
        return ringsAt(now.rate);
    }

    private List<Integer> findRings(int rate) {
        TreeSet<Integer> found = new TreeSet<>();
        for (int start = 0; start < net.nodes; start++) {
            wander(start, start, 1 << start, 0, found);
        }
        List<Integer> may = new ArrayList<>();
        for (int ring : found) {
            int far = 0;
            int work = 0;
            for (int l = 0; l < net.links.size(); l++) {
                if ((ring >> l & 1) != 0) {
                    far += net.links.get(l).far();
                    work += net.links.get(l).work();
                }
            }
            Map<String, Integer> words = Map.of("rate", rate, "long", far, "work", work, "links",
                    Integer.bitCount(ring), "chords", Integer.bitCount(chordsOf(ring)));
            if (net.may == null || new Worker(net.may, words).truth()) {
                may.add(ring);
            }
        }
        return may;
    }

    private void wander(int start, int node, int met, int gone, Set<Integer> found) {
        for (int l = 0; l < net.links.size(); l++) {
            Link k = net.links.get(l);
            if ((gone >> l & 1) != 0 || k.a() != node && k.b() != node) {
                continue;
            }
            int next = k.a() == node ? k.b() : k.a();
            if (next == start && Integer.bitCount(gone) >= 2) {
                found.add(gone | 1 << l);
            } else if ((met >> next & 1) == 0) {
                wander(start, next, met | 1 << next, gone | 1 << l, found);
            }
        }
    }

    private int nodesOf(int ring) {
        int b = 0;
        for (int l = 0; l < net.links.size(); l++) {
            if ((ring >> l & 1) != 0) {
                b |= 1 << net.links.get(l).a() | 1 << net.links.get(l).b();
            }
        }
        return b;
    }

    private int chordsOf(int ring) {
        int nodes = nodesOf(ring);
        int b = 0;
        for (int l = 0; l < net.links.size(); l++) {
            Link k = net.links.get(l);
            if ((ring >> l & 1) == 0 && (nodes >> k.a() & 1) != 0 && (nodes >> k.b() & 1) != 0) {
                b |= 1 << l;
            }
        }
        return b;
    }

    private int useOf(int ring, int l) {
        return (ring >> l & 1) != 0 ? 1 : (chordsOf(ring) >> l & 1) != 0 ? 2 : 0;
    }

    private int usesOf(int ring) {
        int sum = 0;
        for (int l = 0; l < net.links.size(); l++) {
            sum += useOf(ring, l);
        }
        return sum;
    }

    private int linkCost(int l, int rate) {
        Link k = net.links.get(l);
        if (net.costs == null) {
            return k.far();
        }
        long v = new Worker(net.costs, Map.of("rate", rate, "long", k.far(), "work", k.work(), "from", k.a(), "to",
                k.b())).sum();
        return (int) Math.max(1, Math.min(99, v));
    }

    private int costOf(int ring, int rate) {
        int sum = 0;
        for (int l = 0; l < net.links.size(); l++) {
            sum += (ring >> l & 1) != 0 ? linkCost(l, rate) : 0;
        }
        return sum;
    }

    /** Paths: parts of the ring that lead, as a line, from one end of the link to the other. */
    private List<Integer> pathsOf(int ring, int l) {
        List<Integer> paths = new ArrayList<>();
        if (useOf(ring, l) == 0) {
            return paths;
        }
        Link k = net.links.get(l);
        int rest = ring & ~(1 << l);
        for (int part = 1; part < 1 << net.links.size(); part++) {
            if ((part & ~rest) == 0 && isLine(part, k.a(), k.b())) {
                paths.add(part);
            }
        }
        return paths;
    }

    private boolean isLine(int part, int a, int b) {
        int[] ends = new int[8];
        for (int l = 0; l < net.links.size(); l++) {
            if ((part >> l & 1) != 0) {
                ends[net.links.get(l).a()]++;
                ends[net.links.get(l).b()]++;
            }
        }
        for (int n = 0; n < 8; n++) {
            if (n == a || n == b ? ends[n] != 1 : ends[n] != 0 && ends[n] != 2) {
                return false;
            }
        }
        return (reach(a, ~part) >> b & 1) != 0 && (nodesOf(part) & ~reach(a, ~part)) == 0;
    }

    private int reach(int node, int without) {
        Set<Integer> seen = new HashSet<>();
        Deque<Integer> todo = new ArrayDeque<>();
        todo.add(node);
        while (!todo.isEmpty()) {
            int n = todo.poll();
            if (seen.add(n)) {
                for (int l = 0; l < net.links.size(); l++) {
                    Link k = net.links.get(l);
                    if ((without >> l & 1) == 0 && k.a() == n) {
                        todo.add(k.b());
                    }
                    if ((without >> l & 1) == 0 && k.b() == n) {
                        todo.add(k.a());
                    }
                }
            }
        }
        return bits(seen);
    }

    // ---- deeds on a state

    private void begin(State s) {
        s.copies.clear();
        s.failed.clear();
        s.units.clear();
        for (int l = 0; l < net.links.size(); l++) {
            for (int u = 0; u < net.links.get(l).work(); u++) {
                s.units.add(new Unit(l, u));
            }
        }
    }

    private void tryAll(State s) {
        for (Unit u : s.units) {
            if (s.failed.contains(u.link) && !u.runs()) {
                tryOne(s, u);
            }
        }
    }

    private void tryOne(State s, Unit unit) {
        for (int ring : s.copies.keySet()) {
            List<Integer> paths = pathsOf(ring, unit.link);
            for (int copy = 0; copy < s.copies.get(ring); copy++) {
                for (int path : paths) {
                    boolean free = (path & bits(s.failed)) == 0;
                    for (Unit other : s.units) {
                        free &= other.ring != ring || other.copy != copy || (other.path & path) == 0;
                    }
                    if (free) {
                        unit.ring = ring;
                        unit.copy = copy;
                        unit.path = path;
                        return;
                    }
                }
            }
        }
    }

    private int lostIn(State s) {
        int n = 0;
        for (Unit u : s.units) {
            n += s.failed.contains(u.link) && !u.runs() ? 1 : 0;
        }
        return n;
    }

    private int doDeed(State s, long v) {
        if (v >= 10 && v <= 19) {
            return rateIn(s, (int) v - 10);
        }
        if (v >= 100 && v <= 109) {
            return failIn(s, (int) v - 100);
        }
        if (v >= 110 && v <= 119) {
            return mendIn(s, (int) v - 110);
        }
        if (v >= 200 && v <= 299) {
            return layIn(s, (int) v - 200);
        }
        return v >= 300 && v <= 399 ? takeIn(s, (int) v - 300) : 1;
    }

    private int rateIn(State s, int n) {
        if (n < 0 || n > 9) {
            return 1;
        }
        boolean same = ringsAt(s.rate).equals(ringsAt(n));
        s.rate = n;
        if (!same) {
            begin(s);
        }
        return 0;
    }

    private boolean isLink(int l) {
        return l >= 0 && l < net.links.size();
    }

    private int failIn(State s, int l) {
        if (!isLink(l)) {
            return 1;
        }
        if (!s.failed.add(l)) {
            return 2;
        }
        for (Unit u : s.units) {
            if ((u.path >> l & 1) != 0) {
                u.loseIt();
            }
        }
        tryAll(s);
        return 0;
    }

    private int mendIn(State s, int l) {
        if (!isLink(l)) {
            return 1;
        }
        if (!s.failed.remove(l)) {
            return 2;
        }
        for (Unit u : s.units) {
            if (u.link == l) {
                u.loseIt();
            }
        }
        tryAll(s);
        return 0;
    }

    private boolean isRing(State s, int r) {
        return r >= 0 && r < ringsAt(s.rate).size();
    }

    private int layIn(State s, int r) {
        if (!isRing(s, r)) {
            return 1;
        }
        int ring = ringsAt(s.rate).get(r);
        if (s.copies.getOrDefault(ring, 0) == 9) {
            return 2;
        }
        s.copies.merge(ring, 1, Integer::sum);
        tryAll(s);
        return 0;
    }

    private int takeIn(State s, int r) {
        if (!isRing(s, r)) {
            return 1;
        }
        int ring = ringsAt(s.rate).get(r);
        int n = s.copies.getOrDefault(ring, 0);
        if (n == 0) {
            return 2;
        }
        s.copies.put(ring, n - 1);
        for (Unit u : s.units) {
            if (u.ring == ring && u.copy == n - 1) {
                u.loseIt();
            }
        }
        tryAll(s);
        return 0;
    }

    private void remember(State before) {
        past.add(before);
        if (past.size() > 10) {
            past.remove(0);
        }
    }

    // ---- the face

    int feed(int... five) {
        if (tape.size() + 20 > 900) {
            return -5;
        }
        for (int v : five) {
            tape.add((byte) (v >>> 24));
            tape.add((byte) (v >>> 16));
            tape.add((byte) (v >>> 8));
            tape.add((byte) v);
        }
        return tape.size();
    }

    int net(int n) {
        if (n < 0 || n > tape.size()) {
            return -3;
        }
        byte[] text = new byte[n];
        for (int i = 0; i < n; i++) {
            text[i] = tape.get(i);
        }
        tape.clear();
        try {
            net = parse(text);
        } catch (Fault f) {
            faultKind = f.kind;
            faultPlace = f.place;
            return -30 - f.kind;
        }
        faultKind = 0;
        faultPlace = NONE;
        now = new State();
        now.rate = net.rate;
        begin(now);
        past.clear();
        return net.lines;
    }

    int fault(int what) {
        return what == 0 ? faultKind : what == 1 ? faultPlace : NONE;
    }

    int link(int l, int what) {
        if (!isLink(l) || what < 0 || what > 6) {
            return -2;
        }
        Link k = net.links.get(l);
        int uses = usesLaid(now.copies, l);
        int lost = 0;
        for (Unit u : now.units) {
            lost += u.link == l && now.failed.contains(l) && !u.runs() ? 1 : 0;
        }
        return new int[] {k.a(), k.b(), k.far(), k.work(), now.failed.contains(l) ? 1 : 0, uses, lost}[what];
    }

    private int usesLaid(Map<Integer, Integer> copies, int l) {
        int uses = 0;
        for (Map.Entry<Integer, Integer> e : copies.entrySet()) {
            uses += e.getValue() * useOf(e.getKey(), l);
        }
        return uses;
    }

    int ring(int r, int what) {
        if (!isRing(now, r) || what < 0 || what > 5) {
            return -2;
        }
        int ring = ringsNow().get(r);
        return new int[] {ring, nodesOf(ring), chordsOf(ring), costOf(ring, now.rate), usesOf(ring),
            now.copies.getOrDefault(ring, 0)}[what];
    }

    int ringOf(int links) {
        return ringsNow().indexOf(links);
    }

    int use(int r, int l) {
        return isRing(now, r) && isLink(l) ? useOf(ringsNow().get(r), l) : -2;
    }

    int path(int r, int l, int i) {
        if (!isRing(now, r) || !isLink(l)) {
            return -2;
        }
        if (i < 0) {
            return -3;
        }
        List<Integer> paths = pathsOf(ringsNow().get(r), l);
        return i < paths.size() ? paths.get(i) : NONE;
    }

    private int call(State before, int why, int answer) {
        if (why != 0) {
            return -10 - why;
        }
        remember(before);
        return answer;
    }

    int lay(int r) {
        State before = now.copy();
        int why = layIn(now, r);
        return call(before, why, ring(r, 5));
    }

    int take(int r) {
        State before = now.copy();
        int why = takeIn(now, r);
        return call(before, why, ring(r, 5));
    }

    int fail(int l) {
        State before = now.copy();
        int why = failIn(now, l);
        return call(before, why, lostIn(now));
    }

    int mend(int l) {
        State before = now.copy();
        int why = mendIn(now, l);
        return call(before, why, lostIn(now));
    }

    int rate(int n) {
        State before = now.copy();
        int why = rateIn(now, n);
        return call(before, why, ringsNow().size());
    }

    int undo(int n) {
        if (n < 1 || n > 10 || n > past.size()) {
            return -3;
        }
        for (int i = 0; i < n; i++) {
            now = past.remove(past.size() - 1);
        }
        return past.size();
    }

    int judge(int tray, int what) {
        if (tray < 0 || tray > 3 || what < 0 || what > 3) {
            return -2;
        }
        if (trays[tray] == null) {
            return -6;
        }
        State s = now.copy();
        int place = NONE;
        int why = 0;
        for (int i = 0; i < trays[tray].length && why == 0; i++) {
            why = doDeed(s, trays[tray][i]);
            place = why != 0 ? i : NONE;
        }
        return new int[] {place, why, lostIn(s), bits(s.failed)}[what];
    }

    int perform(int tray) {
        if (tray < 0 || tray > 3) {
            return -2;
        }
        if (trays[tray] == null) {
            return -6;
        }
        State before = now.copy();
        int done = 0;
        for (long v : trays[tray]) {
            if (doDeed(now, v) != 0) {
                break;
            }
            done++;
        }
        if (done > 0) {
            remember(before);
        }
        return done;
    }

    int year(int seed, int times) {
        if (times < 1 || times > 40) {
            return -3;
        }
        State before = now.copy();
        int[] x = {seed};
        int done = 0;
        for (int i = 0; i < times; i++) {
            int deed = switch (draw(x) % 5) {
                case 0, 1 -> 200 + draw(x) % 12;
                case 2 -> 300 + draw(x) % 12;
                case 3 -> 100 + draw(x) % 10;
                default -> 110 + draw(x) % 10;
            };
            done += doDeed(now, deed) == 0 ? 1 : 0;
        }
        if (done > 0) {
            remember(before);
        }
        return done;
    }

    private static int draw(int[] x) {
        x[0] = 1103515245 * x[0] + 12345;
        return x[0] >>> 16;
    }

    private boolean isCoverBy(Map<Integer, Integer> copies) {
        for (int l = 0; l < net.links.size(); l++) {
            if (usesLaid(copies, l) < net.links.get(l).work()) {
                return false;
            }
        }
        return true;
    }

    int isCover() {
        return isCoverBy(now.copies) ? 1 : 0;
    }

    int cost() {
        int sum = 0;
        for (Map.Entry<Integer, Integer> e : now.copies.entrySet()) {
            sum += e.getValue() * costOf(e.getKey(), now.rate);
        }
        return sum;
    }

    // ---- to lay yet: by all rings that help at all, not by the first link alone

    private int[][] usesTable;
    private int[] prices;
    private final Map<List<Integer>, Integer> best = new HashMap<>();

    private List<Integer> needs() {
        List<Integer> needs = new ArrayList<>();
        for (int l = 0; l < net.links.size(); l++) {
            needs.add(Math.max(0, net.links.get(l).work() - usesLaid(now.copies, l)));
        }
        return needs;
    }

    private List<Integer> less(List<Integer> needs, int r) {
        List<Integer> rest = new ArrayList<>();
        for (int l = 0; l < needs.size(); l++) {
            rest.add(Math.max(0, needs.get(l) - usesTable[r][l]));
        }
        return rest;
    }

    private int bestOf(List<Integer> needs) {
        Integer known = best.get(needs);
        if (known != null) {
            return known;
        }
        int least = 1000000;
        boolean some = false;
        for (int l : needs) {
            some |= l > 0;
        }
        if (!some) {
            least = 0;
        } else {
            for (int r = 0; r < prices.length; r++) {
                List<Integer> rest = less(needs, r);
                if (!rest.equals(needs)) {
                    least = Math.min(least, prices[r] + bestOf(rest));
                }
            }
        }
        best.put(needs, least);
        return least;
    }

    /** Copies to lay by ring's number; null: it can't be. */
    private int[] toLay(int aim) {
        List<Integer> rings = ringsNow();
        usesTable = new int[rings.size()][net.links.size()];
        prices = new int[rings.size()];
        best.clear();
        for (int r = 0; r < rings.size(); r++) {
            prices[r] = aim == 0 ? costOf(rings.get(r), now.rate) : 1;
            for (int l = 0; l < net.links.size(); l++) {
                usesTable[r][l] = useOf(rings.get(r), l);
            }
        }
        List<Integer> needs = needs();
        int all = bestOf(needs);
        if (all >= 1000000) {
            return null;
        }
        int[] laid = new int[rings.size()];
        while (bestOf(needs) > 0) {
            int first = 0;
            while (needs.get(first) == 0) {
                first++;
            }
            int r = 0;
            while (usesTable[r][first] == 0 || prices[r] + bestOf(less(needs, r)) != bestOf(needs)) {
                r++;
            }
            laid[r]++;
            needs = less(needs, r);
        }
        return laid;
    }

    int yet(int aim, int what) {
        if (aim < 0 || aim > 1 || what < 0 || what > 1) {
            return -2;
        }
        int[] laid = toLay(aim);
        if (laid == null) {
            return NONE;
        }
        int sum = 0;
        for (int r = 0; r < laid.length; r++) {
            sum += laid[r] * (what == 0 ? costOf(ringsNow().get(r), now.rate) : 1);
        }
        return sum;
    }

    int among(int aim, int r) {
        if (aim < 0 || aim > 1 || !isRing(now, r)) {
            return -2;
        }
        int[] laid = toLay(aim);
        return laid == null ? NONE : laid[r];
    }

    long bound(int what) {
        if (what != 0 && what != 1) {
            return -2;
        }
        BigInteger above = BigInteger.ZERO;
        BigInteger below = BigInteger.ONE;
        for (int l = 0; l < net.links.size(); l++) {
            long cost = 0;
            long uses = 0;
            for (int ring : ringsNow()) {
                if (useOf(ring, l) > 0 && (uses == 0 || costOf(ring, now.rate) * uses < cost * usesOf(ring))) {
                    cost = costOf(ring, now.rate);
                    uses = usesOf(ring);
                }
            }
            int work = net.links.get(l).work();
            if (work > 0) {
                if (uses == 0) {
                    return NONE;
                }
                above = above.multiply(BigInteger.valueOf(uses)).add(below.multiply(BigInteger.valueOf(cost * work)));
                below = below.multiply(BigInteger.valueOf(uses));
            }
        }
        BigInteger common = above.gcd(below);
        return (what == 0 ? above : below).divide(common).longValueExact();
    }

    int covers(int n) {
        if (n < 0 || n > 3) {
            return -3;
        }
        return waysWith(new TreeMap<>(), 0, n);
    }

    private int waysWith(TreeMap<Integer, Integer> copies, int first, int n) {
        if (n == 0) {
            return isCoverBy(copies) ? 1 : 0;
        }
        int ways = 0;
        for (int r = first; r < ringsNow().size(); r++) {
            int ring = ringsNow().get(r);
            copies.merge(ring, 1, Integer::sum);
            ways += waysWith(copies, r, n - 1);
            copies.merge(ring, -1, Integer::sum);
        }
        return ways;
    }

    int best() {
        int found = NONE;
        double least = 0;
        for (int r = 0; r < ringsNow().size(); r++) {
            double each = (double) costOf(ringsNow().get(r), now.rate) / usesOf(ringsNow().get(r));
            if (found < 0 || each < least - 1e-9) {
                found = r;
                least = each;
            }
        }
        return found;
    }

    int spare() {
        if (!isCoverBy(now.copies)) {
            return 0;
        }
        int b = 0;
        for (int r = 0; r < ringsNow().size() && r <= 30; r++) {
            TreeMap<Integer, Integer> less = new TreeMap<>(now.copies);
            int n = less.getOrDefault(ringsNow().get(r), 0);
            if (n > 0) {
                less.put(ringsNow().get(r), n - 1);
                b |= isCoverBy(less) ? 1 << r : 0;
            }
        }
        return b;
    }

    int runs(int l, int u, int what) {
        if (!isLink(l) || u < 0 || u >= net.links.get(l).work() || what < 0 || what > 2) {
            return -2;
        }
        for (Unit unit : now.units) {
            if (unit.link == l && unit.u == u && unit.runs()) {
                return what == 0 ? ringsNow().indexOf(unit.ring) : what == 1 ? unit.copy : unit.path;
            }
        }
        return NONE;
    }

    int lost() {
        return lostIn(now);
    }

    int ifFails(int l) {
        if (!isLink(l)) {
            return -2;
        }
        State s = now.copy();
        return failIn(s, l) != 0 ? -5 : lostIn(s);
    }

    int worst() {
        int worst = NONE;
        for (int l = net.links.size() - 1; l >= 0; l--) {
            if (!now.failed.contains(l) && (worst < 0 || ifFails(l) >= ifFails(worst))) {
                worst = l;
            }
        }
        return worst;
    }

    private State fresh() {
        State s = now.copy();
        s.failed.clear();
        for (Unit u : s.units) {
            u.loseIt();
        }
        return s;
    }

    int two(int first, int second) {
        if (!isLink(first) || !isLink(second) || first == second) {
            return -2;
        }
        State s = fresh();
        failIn(s, first);
        failIn(s, second);
        return lostIn(s);
    }

    int twos(int what) {
        if (what < 0 || what > 2) {
            return -2;
        }
        int sum = 0;
        int some = 0;
        int worst = NONE;
        for (int a = 0; a < net.links.size(); a++) {
            for (int b = 0; b < net.links.size(); b++) {
                if (a != b) {
                    int lost = two(a, b);
                    sum += lost;
                    some += lost > 0 ? 1 : 0;
                    if (worst < 0 || lost > two(worst / 10, worst % 10)) {
                        worst = 10 * a + b;
                    }
                }
            }
        }
        return new int[] {sum, some, worst}[what];
    }

    int stands() {
        State s = fresh();
        for (int n = 1; n <= net.links.size(); n++) {
            int l = 0;
            while (s.failed.contains(l)) {
                l++;
            }
            failIn(s, l);
            if (lostIn(s) > 0) {
                return n;
            }
        }
        return NONE;
    }

    int rings() {
        return ringsNow().size();
    }

    int bare() {
        int b = 0;
        for (int l = 0; l < net.links.size(); l++) {
            int uses = 0;
            for (int ring : ringsNow()) {
                uses += useOf(ring, l);
            }
            b |= uses == 0 ? 1 << l : 0;
        }
        return b;
    }

    int bridges() {
        int b = 0;
        for (int l = 0; l < net.links.size(); l++) {
            int a = net.links.get(l).a();
            b |= Integer.bitCount(reach(a, 1 << l)) < Integer.bitCount(reach(a, 0)) ? 1 << l : 0;
        }
        return b;
    }

    int cut(int a, int b, int what) {
        if (a < 0 || a >= net.nodes || b < 0 || b >= net.nodes || what < 0 || what > 1) {
            return -2;
        }
        if (a == b) {
            return NONE;
        }
        for (int n = 0; n <= net.links.size(); n++) {
            for (int set = 0; set < 1 << net.links.size(); set++) {
                if (Integer.bitCount(set) == n && (reach(a, set) >> b & 1) == 0) {
                    return what == 0 ? n : set;
                }
            }
        }
        throw new IllegalStateException("no cut");
    }

    int rates(int tray) {
        if (tray < 0 || tray > 3) {
            return -2;
        }
        if (trays[tray] == null) {
            return -6;
        }
        if (trays[tray].length < 1 || trays[tray].length > 8) {
            return -4;
        }
        for (long v : trays[tray]) {
            if (v < 0 || v / 1000 >= ringsNow().size()) {
                return -3;
            }
        }
        int b = 0;
        for (int rate = 0; rate <= 9; rate++) {
            boolean all = true;
            for (long v : trays[tray]) {
                all &= costOf(ringsNow().get((int) (v / 1000)), rate) == v % 1000;
            }
            b |= all ? 1 << rate : 0;
        }
        return b;
    }

    int ask(int tray) {
        int some = rates(tray);
        if (some < 0) {
            return some;
        }
        int found = NONE;
        int least = 0;
        for (int r = 0; some != 0 && r < ringsNow().size(); r++) {
            Map<Integer, Integer> alike = new HashMap<>();
            for (int rate = 0; rate <= 9; rate++) {
                if ((some >> rate & 1) != 0) {
                    alike.merge(costOf(ringsNow().get(r), rate), 1, Integer::sum);
                }
            }
            int most = Collections.max(alike.values());
            if (found < 0 || most < least) {
                found = r;
                least = most;
            }
        }
        return found;
    }

    private int[] lots(State s, int n) {
        if (n == 0) {
            return new int[] {lostIn(s) == 0 ? 1 : 0, lostIn(s)};
        }
        int[] sums = new int[2];
        for (int lot = 0; lot < 10; lot++) {
            State t = s.copy();
            failIn(t, lot);
            int[] part = lots(t, n - 1);
            sums[0] += part[0];
            sums[1] += part[1];
        }
        return sums;
    }

    private int lotsPart(int n, int what, int which) {
        if (what < 0 || what > 1) {
            return -2;
        }
        if (n < 0 || n > 3) {
            return -3;
        }
        BigInteger above = BigInteger.valueOf(lots(now, n)[which]);
        BigInteger below = BigInteger.TEN.pow(n);
        return (what == 0 ? above : below).divide(above.gcd(below)).intValueExact();
    }

    int chance(int n, int what) {
        return lotsPart(n, what, 0);
    }

    int mean(int n, int what) {
        return lotsPart(n, what, 1);
    }

    int numbers(int tray, int sort, int n) {
        if (tray < 0 || tray > 3 || sort < 0 || sort > 3) {
            return -2;
        }
        if (n < 0 || n > 40) {
            return -3;
        }
        trays[tray] = new long[n];
        sorts[tray] = sort;
        return 0;
    }

    private long cutTo(int sort, long v) {
        int away = 64 - (8 << sort);
        return v << away >> away;
    }

    long write(int tray, int i, long v) {
        if (tray < 0 || tray > 3) {
            return -2;
        }
        if (trays[tray] == null) {
            return -6;
        }
        if (i < 0 || i >= trays[tray].length) {
            return -7;
        }
        trays[tray][i] = cutTo(sorts[tray], v);
        return trays[tray][i];
    }

    int lists(int tray, int aim) {
        if (tray < 0 || tray > 3 || aim < 0 || aim > 1) {
            return -2;
        }
        if (trays[tray] == null) {
            return -6;
        }
        int[] laid = toLay(aim);
        if (laid == null) {
            return -5;
        }
        List<Integer> all = new ArrayList<>();
        for (int r = 0; r < laid.length; r++) {
            all.addAll(Collections.nCopies(laid[r], r));
        }
        int n = Math.min(all.size(), trays[tray].length);
        for (int i = 0; i < n; i++) {
            trays[tray][i] = all.get(i);
        }
        return n;
    }

    int image(int i) {
        if (i < 0 || i > 1) {
            return -2;
        }
        images[i] = new Image(net, now.copy());
        return 0;
    }

    int restore(int i) {
        if (i < 0 || i > 1) {
            return -2;
        }
        if (images[i] == null) {
            return -5;
        }
        net = images[i].net();
        now = images[i].state().copy();
        past.clear();
        return 0;
    }

    int count(int what) {
        int copies = 0;
        for (int n : now.copies.values()) {
            copies += n;
        }
        int[] all = {net.nodes, net.links.size(), now.rate, copies, bits(now.failed), now.units.size(), past.size(),
            tape.size(), net.lines};
        return what < 0 || what >= all.length ? NONE : all[what];
    }

    /** For a test's draws: what a ring of now would cost by a rate; NONE: there is no such ring. */
    int costIfRate(int r, int rate) {
        return isRing(now, r) ? costOf(ringsNow().get(r), rate) : NONE;
    }

    /** For a test's report: what is in a tray. */
    String trayText(int tray) {
        return Arrays.toString(trays[tray]);
    }
}
