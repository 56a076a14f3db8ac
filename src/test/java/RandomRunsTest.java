import java.nio.charset.StandardCharsets;
import java.util.ArrayList;
import java.util.Collections;
import java.util.List;
import java.util.Random;

/** Runs of drawn calls, each answered by the program and by the model. Arguments: how many runs, the first seed. */
public final class RandomRunsTest {
    private final Random random;
    private final SpareRings x = new SpareRings();
    private final Model m = new Model();
    private final List<String> calls = new ArrayList<>();
    private boolean good = true;

    private RandomRunsTest(long seed) {
        random = new Random(seed);
    }

    public static void main(String[] args) {
        int runs = args.length > 0 ? Integer.parseInt(args[0]) : 400;
        long first = args.length > 1 ? Long.parseLong(args[1]) : 1;
        for (long seed = first; seed < first + runs; seed++) {
            RandomRunsTest run = new RandomRunsTest(seed);
            run.go();
            Check.holds("the run of seed " + seed, run.good);
        }
        Check.end();
    }

    private void go() {
        int n = 20 + random.nextInt(150);
        if (random.nextInt(10) > 0) {
            tellText(goodText());
        }
        for (int i = 0; i < n && good && calls.size() < 500; i++) {
            step();
        }
        if (!good) {
            System.out.println(String.join("\n", calls));
        }
    }

    private void same(String call, long got, long want) {
        calls.add(call + " = " + got);
        if (got != want && good) {
            good = false;
            calls.add("   but due is " + want);
        }
    }

    private int below(int n) {
        return random.nextInt(n);
    }

    /** A number from 0 on, at times one that is out of bounds. */
    private int near(int n) {
        int k = below(30);
        return k == 0 ? -1 : k == 1 ? n : k == 2 && below(4) == 0 ? random.nextInt() : n <= 0 ? 0 : below(n);
    }

    private void tellText(String text) {
        byte[] bytes = text.getBytes(StandardCharsets.ISO_8859_1);
        for (int i = 0; i < bytes.length; i += 20) {
            int[] v = new int[5];
            for (int j = 0; j < 20; j++) {
                v[j / 4] = v[j / 4] << 8 | (i + j < bytes.length ? bytes[i + j] & 255 : 32);
            }
            same("feed", x.feed(v[0], v[1], v[2], v[3], v[4]), m.feed(v));
        }
        int n = below(40) == 0 ? near(bytes.length + 30) : bytes.length;
        same("net(" + n + ") of: " + text, x.net(n), m.net(n));
        same("fault(0)", x.fault(0), m.fault(0));
        same("fault(1)", x.fault(1), m.fault(1));
    }

    private String goodText() {
        String text = drawnText();
        while (text.length() > 860) {
            text = drawnText();
        }
        return text;
    }

    private String drawnText() {
        int nodes = below(6) == 0 ? 1 + below(8) : 4 + below(3);
        List<int[]> pairs = new ArrayList<>();
        for (int a = 0; a < nodes; a++) {
            for (int b = a + 1; b < nodes; b++) {
                pairs.add(random.nextBoolean() ? new int[] {a, b} : new int[] {b, a});
            }
        }
        Collections.shuffle(pairs, random);
        if (below(3) == 0) {
            aroundFirst(pairs, nodes);
        }
        int links = Math.min(pairs.size(), below(5) == 0 ? below(11) : 6 + below(5));
        List<String> lines = new ArrayList<>();
        int most = 1 + below(2);
        int idle = below(3);
        for (int i = 0; i < links; i++) {
            int work = below(3) < idle ? 0 : below(most + 1);
            lines.add("link " + pairs.get(i)[0] + " " + pairs.get(i)[1] + " long " + (1 + below(9)) + " work " + work + ";");
        }
        if (below(3) == 0) {
            Collections.shuffle(lines, random);
        }
        for (int i = below(3); i > 0; i--) {
            lines.add(below(lines.size() + 1), law());
        }
        return "net nodes " + nodes + " rate " + below(10) + ";" + String.join(below(4) == 0 ? "\n" : "", lines);
    }

    private String law() {
        int depth = 1 + below(3);
        switch (below(6)) {
            case 0:
                return "may : " + truth(depth, true) + ";";
            case 1:
                return "may : links < " + (4 + below(3)) + " or rate < " + below(10) + ";";
            case 2:
                return "may : " + new String[] {"links", "chords * 2", "work", "long"}[below(4)] + " > rate;";
            case 3:
                return "costs : if " + truth(depth, false) + " then long * rate else " + below(99) + " end;";
            default:
                return "costs : " + sum(depth, false) + ";";
        }
    }

    /** Links around all nodes come first, so that others are chords of the ring that they make. */
    private void aroundFirst(List<int[]> pairs, int nodes) {
        List<int[]> around = new ArrayList<>();
        for (int i = pairs.size() - 1; i >= 0; i--) {
            int apart = Math.abs(pairs.get(i)[0] - pairs.get(i)[1]);
            if (apart == 1 || apart == nodes - 1) {
                around.add(pairs.remove(i));
            }
        }
        pairs.addAll(0, around);
    }

    private String word(boolean may) {
        String[] words = may ? new String[] {"rate", "long", "work", "links", "chords"}
                : new String[] {"rate", "long", "work", "from", "to"};
        return words[below(5)];
    }

    private String atom(int depth, boolean may) {
        int k = below(depth > 0 ? 8 : 6);
        if (k < 3) {
            return word(may);
        }
        if (k < 6) {
            return "" + (below(5) == 0 ? below(1000) : below(12));
        }
        return k == 6 ? "(" + sum(depth - 1, may) + ")"
                : "if " + truth(depth - 1, may) + " then " + sum(depth - 1, may) + " else " + sum(depth - 1, may) + " end";
    }

    private String term(int depth, boolean may) {
        StringBuilder s = new StringBuilder(atom(depth, may));
        while (below(4) == 0) {
            s.append(" * ").append(atom(depth, may));
        }
        return s.toString();
    }

    private String sum(int depth, boolean may) {
        StringBuilder s = new StringBuilder(term(depth, may));
        while (below(3) == 0) {
            s.append(random.nextBoolean() ? " + " : "-").append(term(depth, may));
        }
        return s.toString();
    }

    private String unit(int depth, boolean may) {
        int k = below(depth > 0 ? 6 : 4);
        if (k < 4) {
            return sum(depth, may) + " " + "=<><".charAt(k) + " " + sum(depth, may);
        }
        return k == 4 ? "not " + unit(depth - 1, may) : "[" + truth(depth - 1, may) + "]";
    }

    private String truth(int depth, boolean may) {
        StringBuilder s = new StringBuilder(unit(depth, may));
        while (below(3) == 0) {
            s.append(random.nextBoolean() ? " and " : " or ").append(unit(depth, may));
        }
        return s.toString();
    }

    /** A text with something cut out, put in or put in place of something. */
    private String spoilt(String text) {
        String[] bits = {" ", ";", ":", "(", ")", "[", "]", "not ", "if ", "end ", "10", "3", "1000", "net ", "long", "links", "to ",
            "\t", "A", "\u00e9", "\u0000", "-", "link 0 1 long 1 work 1;", "=", "((((((", "then", "rate", "+", "or ", "12345", "(((((((",
            "not not not not not not not ", "[[[[", "may:[not[(if[1=1]and not(2)<3 then 1 else 2 end)=1]];", " 9 ", "link 1 0 long 9 work 0;",
            "link 2 3 long 9 work 0;", "costs:((if not not[(1)=1]then 1 else 2 end));", "z"};
        StringBuilder s = new StringBuilder(text);
        for (int i = below(3); i > 0; i--) {
            int at = below(s.length());
            if (Character.isDigit(s.charAt(at))) {
                s.setCharAt(at, (char) ('0' + below(10)));
            }
        }
        for (int i = below(3); i > 0; i--) {
            int at = Math.max(0, s.lastIndexOf(";", below(s.length())));
            s.insert(at == 0 ? 0 : at + 1, bits[below(bits.length)]);
        }
        for (int i = below(3); i > 0; i--) {
            int at = below(s.length() + 1);
            int cut = below(3) == 0 ? 0 : Math.min(s.length() - at, 1 + below(3));
            s.delete(at, at + cut);
            if (below(3) > 0) {
                s.insert(at, bits[below(bits.length)]);
            }
        }
        if (below(8) == 0) {
            s.setLength(below(s.length() + 1));
        }
        return s.length() > 900 ? s.substring(0, 900) : s.toString();
    }

    private void step() {
        int k = below(100);
        if (k < 2) {
            tellText(below(2) == 0 ? goodText() : spoilt(goodText()));
        } else if (k < 40) {
            deed();
        } else if (k < 55) {
            netCall();
        } else if (k < 68) {
            coverCall();
        } else if (k < 82) {
            failingCall();
        } else if (k < 90) {
            trayCall();
        } else {
            otherCall();
        }
    }

    private void deed() {
        int r = near(Math.max(1, m.rings()));
        int l = near(Math.max(1, m.count(1)));
        int k = below(20);
        if (k < 6) {
            same("lay(" + r + ")", x.lay(r), m.lay(r));
        } else if (k < 9) {
            same("take(" + r + ")", x.take(r), m.take(r));
        } else if (k < 13) {
            same("fail(" + l + ")", x.fail(l), m.fail(l));
        } else if (k < 15) {
            same("mend(" + l + ")", x.mend(l), m.mend(l));
        } else if (k < 16) {
            int n = near(10);
            same("rate(" + n + ")", x.rate(n), m.rate(n));
        } else if (k < 17) {
            int n = near(5);
            same("undo(" + n + ")", x.undo(n), m.undo(n));
        } else if (k < 18) {
            int seed = random.nextInt();
            int times = near(41);
            same("year(" + seed + ", " + times + ")", x.year(seed, times), m.year(seed, times));
        } else {
            deeds();
        }
    }

    private void deeds() {
        int tray = below(4);
        int n = below(8);
        numbers(tray, 1 + below(3), n);
        for (int i = 0; i < n; i++) {
            long[] some = {200 + below(8), 200 + below(8), 300 + below(8), 100 + below(10), 100 + below(10), 110 + below(10),
                10 + below(10), below(450)};
            write(tray, i, some[below(some.length)]);
        }
        for (int what = 0; what < 4; what++) {
            same("judge(" + tray + ", " + what + ")", x.judge(tray, what), m.judge(tray, what));
        }
        if (below(2) == 0) {
            same("perform(" + tray + ") of " + m.trayText(tray), x.perform(tray), m.perform(tray));
        }
    }

    private void numbers(int tray, int sort, int n) {
        same("numbers(" + tray + ", " + sort + ", " + n + ")", x.numbers(tray, sort, n), m.numbers(tray, sort, n));
    }

    private void write(int tray, int i, long v) {
        same("write(" + tray + ", " + i + ", " + v + ")", x.write(tray, i, v), m.write(tray, i, v));
    }

    private void netCall() {
        int r = near(Math.max(1, m.rings()));
        int l = near(Math.max(1, m.count(1)));
        int what = near(7);
        int links = below(3) == 0 ? below(1024) : m.ring(r, 0);
        switch (below(9)) {
            case 0 -> same("link(" + l + ", " + what + ")", x.link(l, what), m.link(l, what));
            case 1, 2 -> same("ring(" + r + ", " + what + ")", x.ring(r, what), m.ring(r, what));
            case 3 -> same("ringOf(" + links + ")", x.ringOf(links), m.ringOf(links));
            case 4 -> same("use(" + r + ", " + l + ")", x.use(r, l), m.use(r, l));
            case 5 -> {
                int i = near(3);
                same("path(" + r + ", " + l + ", " + i + ")", x.path(r, l, i), m.path(r, l, i));
            }
            case 6 -> {
                same("rings()", x.rings(), m.rings());
                same("bare()", x.bare(), m.bare());
                same("bridges()", x.bridges(), m.bridges());
            }
            case 7 -> {
                int a = near(m.count(0));
                int b = near(m.count(0));
                int which = near(2);
                same("cut(" + a + ", " + b + ", " + which + ")", x.cut(a, b, which), m.cut(a, b, which));
            }
            default -> {
                int of = near(9);
                same("count(" + of + ")", x.count(of), m.count(of));
                same("fault(" + what + ")", x.fault(what), m.fault(what));
            }
        }
    }

    private void coverCall() {
        int aim = near(2);
        int what = near(2);
        int r = near(Math.max(1, m.rings()));
        switch (below(8)) {
            case 0, 1 -> same("yet(" + aim + ", " + what + ")", x.yet(aim, what), m.yet(aim, what));
            case 2 -> same("among(" + aim + ", " + r + ")", x.among(aim, r), m.among(aim, r));
            case 3 -> same("bound(" + what + ")", x.bound(what), m.bound(what));
            case 4 -> {
                int n = near(4);
                if (n < 3 || m.rings() < 20) {
                    same("covers(" + n + ")", x.covers(n), m.covers(n));
                }
            }
            case 5 -> same("best()", x.best(), m.best());
            case 6 -> {
                same("spare()", x.spare(), m.spare());
                same("isCover()", x.isCover(), m.isCover());
                same("cost()", x.cost(), m.cost());
            }
            default -> {
                int tray = near(4);
                same("lists(" + tray + ", " + aim + ")", x.lists(tray, aim), m.lists(tray, aim));
                same("judge(" + tray + ", 0)", x.judge(tray, 0), m.judge(tray, 0));
            }
        }
    }

    private void failingCall() {
        int l = near(Math.max(1, m.count(1)));
        int second = near(Math.max(1, m.count(1)));
        int u = near(2);
        int what = near(3);
        switch (below(8)) {
            case 0, 1, 2 -> same("runs(" + l + ", " + u + ", " + what + ")", x.runs(l, u, what), m.runs(l, u, what));
            case 3 -> same("lost()", x.lost(), m.lost());
            case 4 -> same("ifFails(" + l + ")", x.ifFails(l), m.ifFails(l));
            case 5 -> same("worst()", x.worst(), m.worst());
            case 6 -> {
                same("two(" + l + ", " + second + ")", x.two(l, second), m.two(l, second));
                same("stands()", x.stands(), m.stands());
            }
            default -> same("twos(" + what + ")", x.twos(what), m.twos(what));
        }
    }

    private void trayCall() {
        int tray = near(4);
        int sort = near(4);
        if (below(2) == 0) {
            int n = near(41);
            numbers(tray, sort, n);
            int i = near(Math.max(n, 1));
            write(tray, i, random.nextLong() >> below(64));
            same("judge(" + tray + ", 1)", x.judge(tray, 1), m.judge(tray, 1));
            same("perform(" + tray + ")", x.perform(tray), m.perform(tray));
        } else {
            int n = below(6) == 0 ? near(10) : 1 + below(2);
            numbers(tray, sort, n);
            int rate = below(10);
            for (int i = 0; i < n && i < 10; i++) {
                int r = near(Math.max(1, m.rings()));
                write(tray, i, 1000L * r + (below(3) == 0 ? below(1000) : costBy(r, rate)));
            }
        }
        same("rates(" + tray + ")", x.rates(tray), m.rates(tray));
        same("ask(" + tray + ")", x.ask(tray), m.ask(tray));
    }

    /** What a ring would cost by another rate: asked of the model behind its back. */
    private int costBy(int r, int rate) {
        int was = m.count(2);
        return rate == was ? Math.max(0, m.ring(r, 3)) : Math.max(0, m.costIfRate(r, rate));
    }

    private void otherCall() {
        int i = near(2);
        int n = below(6) == 0 ? near(4) : below(3);
        int what = near(2);
        switch (below(5)) {
            case 0 -> same("image(" + i + ")", x.image(i), m.image(i));
            case 1 -> same("restore(" + i + ")", x.restore(i), m.restore(i));
            case 2 -> same("chance(" + n + ", " + what + ")", x.chance(n, what), m.chance(n, what));
            case 3 -> same("mean(" + n + ", " + what + ")", x.mean(n, what), m.mean(n, what));
            default -> {
                int of = near(9);
                same("count(" + of + ")", x.count(of), m.count(of));
            }
        }
    }
}
