/** Spare rings for a backbone; ../shared/DOC.md tells what each call promises. */
public final class SpareRings {
    /** There is none. */
    public static final int NONE = -1;

    private static final int NO_SUCH = -2;
    private static final int CANT_BE = -3;
    private static final int TOO_MANY = -4;
    private static final int NOT_NOW = -5;
    private static final int TRAY_MISSING = -6;
    private static final int NOT_IN_TRAY = -7;
    private static final int WHY_NOT = -10;
    private static final int FAULTY = -30;

    private static final int MAX_TEXT = 900;
    private static final int FEED_BYTES = 20;
    private static final int MAX_NODES = 8;
    private static final int MAX_LINKS = 10;
    private static final int MAX_LONG = 9;
    private static final int MAX_WORK = 2;
    private static final int MAX_UNITS = MAX_LINKS * MAX_WORK;
    private static final int RATES = 10;
    private static final int MAX_COPIES = 9;
    // Ten links make the most rings, 37, where they join each two of five nodes.
    private static final int MAX_RINGS = 40;
    private static final int MAX_SPARE_BITS = 31;
    private static final int MAX_UNDONE = 10;
    private static final int IMAGES = 2;
    private static final int TRAYS = 4;
    private static final int SORTS = 4;
    private static final int MAX_NUMBERS = 40;
    private static final int MAX_PRICED = 8;
    private static final int PRICE_STEP = 1000;
    private static final int LOTS = 10;
    private static final int MAX_DRAWS = 3;
    private static final int MAX_TIMES = 40;
    private static final int MAX_WAYS = 3;

    private static final int NO_LINK_RING_RATE = 1;
    private static final int NOT_AS_IT_IS = 2;

    private final Reader reader = new Reader();
    private Net net = new Net();
    private final State now = new State();
    private final State before = new State();
    private final State[] trial = newStates(MAX_DRAWS + 1);
    private final History history = new History();
    private final Switching switching = new Switching();
    private final Covering covering = new Covering();
    private final Fraction fraction = new Fraction();
    private final Tray[] trays = newTrays();
    private final Net[] imageNets = new Net[IMAGES];
    private final State[] imageStates = newStates(IMAGES);

    public SpareRings() {
    }

    private static State[] newStates(int n) {
        State[] made = new State[n];
        for (int i = 0; i < n; i++) {
            made[i] = new State();
        }
        return made;
    }

    private static Tray[] newTrays() {
        Tray[] made = new Tray[TRAYS];
        for (int i = 0; i < TRAYS; i++) {
            made[i] = new Tray();
        }
        return made;
    }

    // ---- the net

    public int feed(int a, int b, int c, int d, int e) {
        if (reader.fed + FEED_BYTES > MAX_TEXT) {
            return NOT_NOW;
        }
        reader.putOnTape(a);
        reader.putOnTape(b);
        reader.putOnTape(c);
        reader.putOnTape(d);
        reader.putOnTape(e);
        return reader.fed;
    }

    public int net(int n) {
        if (n < 0 || n > reader.fed) {
            return CANT_BE;
        }
        Net told = reader.readNet(n);
        if (told == null) {
            return FAULTY - reader.fault;
        }
        net = told;
        now.begin(told.toldRate);
        history.forget();
        return told.lines;
    }

    public int fault(int what) {
        switch (what) {
            case 0:
                return reader.fault;
            case 1:
                return reader.place;
            default:
                return NONE;
        }
    }

    public int link(int l, int what) {
        if (!net.hasLink(l)) {
            return NO_SUCH;
        }
        switch (what) {
            case 0:
                return net.from[l];
            case 1:
                return net.to[l];
            case 2:
                return net.far[l];
            case 3:
                return net.work[l];
            case 4:
                return now.hasFailed(l) ? 1 : 0;
            case 5:
                return net.usesLaid(now, l);
            case 6:
                return switching.lostOf(net, now, l);
            default:
                return NO_SUCH;
        }
    }

    public int ring(int r, int what) {
        int cycle = net.cycleOf(now.rate, r);
        if (cycle < 0) {
            return NO_SUCH;
        }
        switch (what) {
            case 0:
                return net.on[cycle];
            case 1:
                return net.nodesOn[cycle];
            case 2:
                return net.chords[cycle];
            case 3:
                return net.priceOf(cycle, now.rate);
            case 4:
                return net.allUses(cycle);
            case 5:
                return now.copies[cycle];
            default:
                return NO_SUCH;
        }
    }

    public int ringOf(int links) {
        int rings = net.ringCount(now.rate);
        for (int r = 0; r < rings; r++) {
            int cycle = net.cycleOf(now.rate, r);
            if (cycle >= 0 && net.on[cycle] == links) {
                return r;
            }
        }
        return NONE;
    }

    public int use(int r, int l) {
        int cycle = net.cycleOf(now.rate, r);
        if (cycle < 0 || !net.hasLink(l)) {
            return NO_SUCH;
        }
        return net.useOf(cycle, l);
    }

    public int path(int r, int l, int i) {
        int cycle = net.cycleOf(now.rate, r);
        if (cycle < 0 || !net.hasLink(l)) {
            return NO_SUCH;
        }
        if (i < 0) {
            return CANT_BE;
        }
        int bits = i > 1 ? 0 : net.pathOf(cycle, l, i);
        return bits == 0 ? NONE : bits;
    }

    // ---- deeds

    public int lay(int r) {
        before.copyFrom(now);
        int why = switching.layCopy(net, now, r);
        return ended(why, copiesOf(r));
    }

    public int take(int r) {
        before.copyFrom(now);
        int why = switching.takeCopy(net, now, r);
        return ended(why, copiesOf(r));
    }

    public int fail(int l) {
        before.copyFrom(now);
        int why = switching.failLink(net, now, l);
        return ended(why, switching.lostUnits(net, now));
    }

    public int mend(int l) {
        before.copyFrom(now);
        int why = switching.mendLink(net, now, l);
        return ended(why, switching.lostUnits(net, now));
    }

    public int rate(int n) {
        before.copyFrom(now);
        int why = switching.changeRate(net, now, n);
        return ended(why, net.ringCount(now.rate));
    }

    /** What a deed's call answers; one that was done can be undone from here on. */
    private int ended(int why, int answer) {
        if (why != 0) {
            return WHY_NOT - why;
        }
        history.keep(before);
        return answer;
    }

    private int copiesOf(int r) {
        int cycle = net.cycleOf(now.rate, r);
        return cycle < 0 ? 0 : now.copies[cycle];
    }

    public int undo(int n) {
        if (n < 1 || n > history.size) {
            return CANT_BE;
        }
        history.bringBack(n, now);
        return history.size;
    }

    public int judge(int tray, int what) {
        if (!isTray(tray) || what < 0 || what > 3) {
            return NO_SUCH;
        }
        Tray deeds = trays[tray];
        if (deeds.isMissing()) {
            return TRAY_MISSING;
        }
        State then = trial[0];
        then.copyFrom(now);
        int done = switching.doAll(net, then, deeds);
        switch (what) {
            case 0:
                return done < deeds.size ? done : NONE;
            case 1:
                return done < deeds.size ? switching.doDeed(net, then, deeds.numbers[done]) : 0;
            case 2:
                return switching.lostUnits(net, then);
            default:
                return then.failed;
        }
    }

    public int perform(int tray) {
        if (!isTray(tray)) {
            return NO_SUCH;
        }
        if (trays[tray].isMissing()) {
            return TRAY_MISSING;
        }
        before.copyFrom(now);
        return keptIfSome(switching.doAll(net, now, trays[tray]));
    }

    public int year(int seed, int times) {
        if (times < 1 || times > MAX_TIMES) {
            return CANT_BE;
        }
        before.copyFrom(now);
        return keptIfSome(switching.doYear(net, now, seed, times));
    }

    private int keptIfSome(int done) {
        if (done > 0) {
            history.keep(before);
        }
        return done;
    }

    // ---- covers

    public int isCover() {
        return net.lacking(now, 1) == 0 ? 1 : 0;
    }

    public int cost() {
        int sum = 0;
        for (int c = 0; c < net.cycles; c++) {
            sum += now.copies[c] * net.priceOf(c, now.rate);
        }
        return sum;
    }

    public int yet(int aim, int what) {
        if (!isAim(aim) || what < 0 || what > 1) {
            return NO_SUCH;
        }
        if (!covering.solve(net, now, aim)) {
            return NONE;
        }
        return what == 0 ? covering.chosenCost : covering.chosenCopies;
    }

    public int among(int aim, int r) {
        if (!isAim(aim) || net.cycleOf(now.rate, r) < 0) {
            return NO_SUCH;
        }
        return covering.solve(net, now, aim) ? covering.chosen[r] : NONE;
    }

    public long bound(int what) {
        if (what < 0 || what > 1) {
            return NO_SUCH;
        }
        if (!covering.tellBound(net, now.rate, fraction)) {
            return NONE;
        }
        return fraction.part(what);
    }

    public int covers(int n) {
        if (n < 0 || n > MAX_WAYS) {
            return CANT_BE;
        }
        return covering.countWays(net, now.rate, n);
    }

    public int best() {
        return covering.bestFor(net, now.rate, NONE);
    }

    public int spare() {
        if (net.lacking(now, 1) != 0) {
            return 0;
        }
        State less = trial[0];
        less.copyFrom(now);
        int bits = 0;
        int rings = Math.min(net.ringCount(now.rate), MAX_SPARE_BITS);
        for (int r = 0; r < rings; r++) {
            int cycle = net.cycleOf(now.rate, r);
            if (cycle >= 0 && less.copies[cycle] > 0) {
                less.copies[cycle]--;
                bits |= net.lacking(less, 1) == 0 ? 1 << r : 0;
                less.copies[cycle]++;
            }
        }
        return bits;
    }

    private static boolean isAim(int aim) {
        return aim == 0 || aim == 1;
    }

    // ---- failing

    public int runs(int l, int u, int what) {
        if (!net.hasLink(l) || u < 0 || u >= net.work[l] || what < 0 || what > 2) {
            return NO_SUCH;
        }
        int where = now.where[l * MAX_WORK + u];
        if (where < 0) {
            return NONE;
        }
        int slot = where >> MAX_LINKS;
        switch (what) {
            case 0:
                return net.ringNumber(now.rate, slot / MAX_COPIES);
            case 1:
                return slot % MAX_COPIES;
            default:
                return State.pathAt(where);
        }
    }

    public int lost() {
        return switching.lostUnits(net, now);
    }

    public int ifFails(int l) {
        if (!net.hasLink(l)) {
            return NO_SUCH;
        }
        return now.hasFailed(l) ? NOT_NOW : lostBehind(now, l, trial[0]);
    }

    /** How many units are lost if a link fails behind what was; then holds how it is then. */
    private int lostBehind(State was, int l, State then) {
        then.copyFrom(was);
        switching.failLink(net, then, l);
        return switching.lostUnits(net, then);
    }

    public int worst() {
        int most = -1;
        int worst = NONE;
        for (int l = 0; l < net.links; l++) {
            int lost = now.hasFailed(l) ? -1 : lostBehind(now, l, trial[0]);
            if (lost > most) {
                most = lost;
                worst = l;
            }
        }
        return worst;
    }

    public int two(int first, int second) {
        if (!net.hasLink(first) || !net.hasLink(second) || first == second) {
            return NO_SUCH;
        }
        trial[0].freshFrom(now);
        lostBehind(trial[0], first, trial[1]);
        return lostBehind(trial[1], second, trial[2]);
    }

    public int twos(int what) {
        if (what < 0 || what > 2) {
            return NO_SUCH;
        }
        int sum = 0;
        int some = 0;
        int most = -1;
        int worst = NONE;
        trial[0].freshFrom(now);
        for (int first = 0; first < net.links; first++) {
            lostBehind(trial[0], first, trial[1]);
            for (int second = 0; second < net.links; second++) {
                if (second != first) {
                    int lost = lostBehind(trial[1], second, trial[2]);
                    sum += lost;
                    some += lost > 0 ? 1 : 0;
                    worst = lost > most ? 10 * first + second : worst;
                    most = Math.max(most, lost);
                }
            }
        }
        return what == 0 ? sum : what == 1 ? some : worst;
    }

    public int stands() {
        State then = trial[0];
        then.freshFrom(now);
        for (int l = 0; l < net.links; l++) {
            switching.failLink(net, then, l);
            if (switching.lostUnits(net, then) > 0) {
                return l + 1;
            }
        }
        return NONE;
    }

    // ---- the net's own

    public int rings() {
        return net.ringCount(now.rate);
    }

    public int bare() {
        return covering.withoutUse(net, now.rate);
    }

    public int bridges() {
        int bits = 0;
        for (int l = 0; l < net.links; l++) {
            if ((net.comeTo(net.from[l], 1 << l) & 1 << net.to[l]) == 0) {
                bits |= 1 << l;
            }
        }
        return bits;
    }

    public int cut(int a, int b, int what) {
        if (!net.hasNode(a) || !net.hasNode(b) || what < 0 || what > 1) {
            return NO_SUCH;
        }
        if (a == b) {
            return NONE;
        }
        int links = net.leastCut(a, b);
        return what == 0 ? Integer.bitCount(links) : links;
    }

    // ---- priced

    public int rates(int tray) {
        int refused = refusedPrices(tray);
        return refused != 0 ? refused : pricedRates(trays[tray]);
    }

    public int ask(int tray) {
        int refused = refusedPrices(tray);
        if (refused != 0) {
            return refused;
        }
        int some = pricedRates(trays[tray]);
        if (some == 0) {
            return NONE;
        }
        int rings = net.ringCount(now.rate);
        int least = RATES + 1;
        int found = NONE;
        for (int r = 0; r < rings; r++) {
            int alike = net.mostAlike(net.cycleOf(now.rate, r), some);
            if (alike < least) {
                least = alike;
                found = r;
            }
        }
        return found;
    }

    private int refusedPrices(int tray) {
        if (!isTray(tray)) {
            return NO_SUCH;
        }
        Tray told = trays[tray];
        if (told.isMissing()) {
            return TRAY_MISSING;
        }
        if (told.size < 1 || told.size > MAX_PRICED) {
            return TOO_MANY;
        }
        long behind = (long) net.ringCount(now.rate) * PRICE_STEP;
        for (int i = 0; i < told.size; i++) {
            if (told.numbers[i] < 0 || told.numbers[i] >= behind) {
                return CANT_BE;
            }
        }
        return 0;
    }

    private int pricedRates(Tray told) {
        int bits = 0;
        for (int rate = 0; rate < RATES; rate++) {
            bits |= isPricedBy(told, rate) ? 1 << rate : 0;
        }
        return bits;
    }

    private boolean isPricedBy(Tray told, int rate) {
        for (int i = 0; i < told.size; i++) {
            int number = (int) told.numbers[i];
            int cycle = net.cycleOf(now.rate, number / PRICE_STEP);
            if (cycle < 0 || net.priceOf(cycle, rate) != number % PRICE_STEP) {
                return false;
            }
        }
        return true;
    }

    // ---- chances

    public int chance(int n, int what) {
        return lotsFraction(n, what, false);
    }

    public int mean(int n, int what) {
        return lotsFraction(n, what, true);
    }

    private int lotsFraction(int n, int what, boolean units) {
        if (what < 0 || what > 1) {
            return NO_SUCH;
        }
        if (n < 0 || n > MAX_DRAWS) {
            return CANT_BE;
        }
        int all = 1;
        for (int i = 0; i < n; i++) {
            all *= LOTS;
        }
        fraction.begin(sumOverLots(now, n, units), all);
        return (int) fraction.part(what);
    }

    /** Over all draws of n lots: the lost units, added, or how often none is. */
    private int sumOverLots(State was, int n, boolean units) {
        if (n <= 0 || n >= trial.length) {
            int lost = switching.lostUnits(net, was);
            return units ? lost : lost == 0 ? 1 : 0;
        }
        int idle = LOTS;
        int sum = 0;
        for (int l = 0; l < net.links; l++) {
            if (!was.hasFailed(l)) {
                trial[n].copyFrom(was);
                switching.failLink(net, trial[n], l);
                sum += sumOverLots(trial[n], n - 1, units);
                idle--;
            }
        }
        return idle == 0 ? sum : sum + idle * sumOverLots(was, n - 1, units);
    }

    // ---- trays, images

    public int numbers(int tray, int sort, int n) {
        if (!isTray(tray) || sort < 0 || sort >= SORTS) {
            return NO_SUCH;
        }
        if (n < 0 || n > MAX_NUMBERS) {
            return CANT_BE;
        }
        trays[tray].begin(sort, n);
        return 0;
    }

    public long write(int tray, int i, long v) {
        if (!isTray(tray)) {
            return NO_SUCH;
        }
        Tray into = trays[tray];
        if (into.isMissing()) {
            return TRAY_MISSING;
        }
        if (i < 0 || i >= into.size) {
            return NOT_IN_TRAY;
        }
        into.put(i, v);
        return into.numbers[i];
    }

    public int lists(int tray, int aim) {
        if (!isTray(tray) || !isAim(aim)) {
            return NO_SUCH;
        }
        Tray into = trays[tray];
        if (into.isMissing()) {
            return TRAY_MISSING;
        }
        if (!covering.solve(net, now, aim)) {
            return NOT_NOW;
        }
        int come = 0;
        for (int r = 0; r < covering.rings; r++) {
            for (int i = 0; i < covering.chosen[r] && come < into.size; i++) {
                into.put(come, r);
                come++;
            }
        }
        return come;
    }

    public int image(int i) {
        if (!isImage(i)) {
            return NO_SUCH;
        }
        imageNets[i] = net;
        imageStates[i].copyFrom(now);
        return 0;
    }

    public int restore(int i) {
        if (!isImage(i)) {
            return NO_SUCH;
        }
        Net was = imageNets[i];
        if (was == null) {
            return NOT_NOW;
        }
        net = was;
        now.copyFrom(imageStates[i]);
        history.forget();
        return 0;
    }

    public int count(int what) {
        switch (what) {
            case 0:
                return net.nodes;
            case 1:
                return net.links;
            case 2:
                return now.rate;
            case 3:
                return now.allCopies();
            case 4:
                return now.failed;
            case 5:
                return net.allWork();
            case 6:
                return history.size;
            case 7:
                return reader.fed;
            case 8:
                return net.lines;
            default:
                return NONE;
        }
    }

    private static boolean isTray(int tray) {
        return tray >= 0 && tray < TRAYS;
    }

    private static boolean isImage(int i) {
        return i >= 0 && i < IMAGES;
    }

    /**
     * A net as it was told, never changed once it is read: all cycles of its links, and by each
     * rate what a link costs and which cycles may be rings. A ring's number by a rate is how many
     * cycles ahead of it may be.
     */
    private static final class Net {
        int nodes = 1;
        int toldRate = 0;
        int lines = 0;
        int links = 0;
        final int[] from = new int[MAX_LINKS];
        final int[] to = new int[MAX_LINKS];
        final int[] far = new int[MAX_LINKS];
        final int[] work = new int[MAX_LINKS];
        final int[] linkCosts = new int[RATES * MAX_LINKS];
        final long[] may = new long[RATES];
        int cycles = 0;
        int[] on = new int[0];
        int[] nodesOn = new int[0];
        int[] chords = new int[0];
        int[] paths = new int[0];

        boolean hasLink(int l) {
            return l >= 0 && l < links;
        }

        boolean hasNode(int n) {
            return n >= 0 && n < nodes;
        }

        void addLink(int a, int b, int length, int units) {
            if (links < MAX_LINKS) {
                from[links] = a;
                to[links] = b;
                far[links] = length;
                work[links] = units;
                links++;
            }
        }

        /** The nodes that a link joins with a node, as bits. */
        int joinedWith(int node) {
            int bits = 0;
            for (int l = 0; l < links; l++) {
                bits |= from[l] == node ? 1 << to[l] : 0;
                bits |= to[l] == node ? 1 << from[l] : 0;
            }
            return bits;
        }

        /** All lines are read: what follows from them. */
        void settle(Laws laws) {
            findCycles();
            for (int rate = 0; rate < RATES; rate++) {
                for (int l = 0; l < links; l++) {
                    laws.tell(rate, far[l], work[l], from[l], to[l]);
                    linkCosts[rate * MAX_LINKS + l] = laws.linkCost(far[l]);
                }
                for (int c = 0; c < cycles; c++) {
                    int sides = Integer.bitCount(on[c]);
                    laws.tell(rate, sumOf(far, on[c]), sumOf(work, on[c]), sides, Integer.bitCount(chords[c]));
                    may[rate] |= laws.mayBe() ? 1L << c : 0L;
                }
            }
        }

        private int sumOf(int[] row, int bits) {
            int sum = 0;
            for (int l = 0; l < links; l++) {
                sum += (bits >> l & 1) * row[l];
            }
            return sum;
        }

        private void findCycles() {
            int[] found = new int[MAX_RINGS];
            for (int bits = 7; bits < 1 << links; bits++) {
                if (cycles < MAX_RINGS && isCycle(bits)) {
                    found[cycles] = bits;
                    cycles++;
                }
            }
            on = new int[cycles];
            nodesOn = new int[cycles];
            chords = new int[cycles];
            paths = new int[cycles * MAX_LINKS * 2];
            for (int c = 0; c < cycles; c++) {
                on[c] = found[c];
                lookAround(c);
            }
        }

        /** How many links of some end at each node, four bits a node: seven at most can. */
        private int endsAtNodes(int bits) {
            int ends = 0;
            for (int l = 0; l < links; l++) {
                if ((bits >> l & 1) != 0) {
                    ends += (1 << 4 * from[l]) + (1 << 4 * to[l]);
                }
            }
            return ends;
        }

        private boolean isCycle(int bits) {
            if (Integer.bitCount(bits) < 3 || (endsAtNodes(bits) & ~0x22222222) != 0) {
                return false;
            }
            for (int l = 0; l < links; l++) {
                if ((bits >> l & 1) != 0) {
                    return walk(bits, from[l], from[l]) == bits;
                }
            }
            return false;
        }

        /** The links gone over from one node, by links of a cycle, till another node is come to. */
        private int walk(int bits, int start, int goal) {
            int left = bits;
            int node = start;
            for (int step = 0; step < links; step++) {
                int l = linkAt(left, node);
                if (l < 0) {
                    break;
                }
                left &= ~(1 << l);
                node = from[l] + to[l] - node;
                if (node == goal) {
                    break;
                }
            }
            return bits & ~left;
        }

        private int linkAt(int bits, int node) {
            for (int l = 0; l < links; l++) {
                if ((bits >> l & 1) != 0 && (from[l] == node || to[l] == node)) {
                    return l;
                }
            }
            return NONE;
        }

        /** The nodes, chords and paths of a cycle whose links are known. */
        private void lookAround(int c) {
            int ends = endsAtNodes(on[c]);
            for (int n = 0; n < nodes; n++) {
                nodesOn[c] |= (ends >> 4 * n & 15) != 0 ? 1 << n : 0;
            }
            for (int l = 0; l < links; l++) {
                int place = (c * MAX_LINKS + l) * 2;
                if ((on[c] >> l & 1) != 0) {
                    paths[place] = on[c] & ~(1 << l);
                } else if ((nodesOn[c] >> from[l] & nodesOn[c] >> to[l] & 1) != 0) {
                    chords[c] |= 1 << l;
                    int side = walk(on[c], from[l], to[l]);
                    paths[place] = Math.min(side, on[c] & ~side);
                    paths[place + 1] = Math.max(side, on[c] & ~side);
                }
            }
        }

        int ringCount(int rate) {
            return Long.bitCount(may[rate]);
        }

        int cycleOf(int rate, int ring) {
            int ahead = 0;
            for (int c = 0; c < cycles; c++) {
                if ((may[rate] >>> c & 1L) != 0) {
                    if (ahead == ring) {
                        return c;
                    }
                    ahead++;
                }
            }
            return NONE;
        }

        int ringNumber(int rate, int cycle) {
            return Long.bitCount(may[rate] & (1L << cycle) - 1L);
        }

        int useOf(int cycle, int l) {
            return (on[cycle] >> l & 1) + 2 * (chords[cycle] >> l & 1);
        }

        int allUses(int cycle) {
            return Integer.bitCount(on[cycle]) + 2 * Integer.bitCount(chords[cycle]);
        }

        /** A path as bits, side 0 or 1; 0: there is none. */
        int pathOf(int cycle, int l, int side) {
            return paths[(cycle * MAX_LINKS + l) * 2 + side];
        }

        int priceOf(int cycle, int rate) {
            int sum = 0;
            for (int l = 0; l < links; l++) {
                sum += (on[cycle] >> l & 1) * linkCosts[rate * MAX_LINKS + l];
            }
            return sum;
        }

        /** By how many rates, of some, a cycle costs the same, at most. */
        int mostAlike(int cycle, int some) {
            int most = 0;
            for (int a = 0; cycle >= 0 && a < RATES; a++) {
                int alike = 0;
                for (int b = 0; (some >> a & 1) != 0 && b < RATES; b++) {
                    if ((some >> b & 1) != 0 && priceOf(cycle, a) == priceOf(cycle, b)) {
                        alike++;
                    }
                }
                most = Math.max(most, alike);
            }
            return most;
        }

        int usesLaid(State state, int l) {
            int sum = 0;
            for (int c = 0; c < cycles; c++) {
                sum += state.copies[c] * useOf(c, l);
            }
            return sum;
        }

        /** The links that lack so many units of use, or more, as bits. */
        int lacking(State state, int units) {
            int bits = 0;
            for (int l = 0; l < links; l++) {
                bits |= work[l] - usesLaid(state, l) >= units ? 1 << l : 0;
            }
            return bits;
        }

        /** The links with so many units of work, or more, as bits. */
        int working(int units) {
            int bits = 0;
            for (int l = 0; l < links; l++) {
                bits |= work[l] >= units ? 1 << l : 0;
            }
            return bits;
        }

        int allWork() {
            return sumOf(work, -1);
        }

        /** The nodes that can be come to from one, without some links, as bits. */
        int comeTo(int node, int without) {
            int bits = 1 << node;
            for (int step = 0; step < nodes; step++) {
                for (int l = 0; l < links; l++) {
                    int ends = 1 << from[l] | 1 << to[l];
                    if ((without >> l & 1) == 0 && (bits & ends) != 0) {
                        bits |= ends;
                    }
                }
            }
            return bits;
        }

        /** The fewest links between two nodes: those that leave some set of nodes around the one. */
        int leastCut(int a, int b) {
            int least = (1 << links) - 1;
            for (int set = 0; set < 1 << nodes; set++) {
                if ((set >> a & 1) != 0 && (set >> b & 1) == 0) {
                    int leaving = linksLeaving(set);
                    int more = Integer.bitCount(leaving) - Integer.bitCount(least);
                    if (more < 0 || more == 0 && leaving < least) {
                        least = leaving;
                    }
                }
            }
            return least;
        }

        private int linksLeaving(int set) {
            int bits = 0;
            for (int l = 0; l < links; l++) {
                bits |= ((set >> from[l] ^ set >> to[l]) & 1) << l;
            }
            return bits;
        }
    }

    /** The tape, and what reads a net's text off it, token by token; the first fault ends it. */
    private static final class Reader {
        private static final int NO_TOKEN = 1;
        private static final int OUT_OF_PLACE = 2;
        private static final int OUT_OF_BOUNDS = 3;
        private static final int ONE_TOO_MANY = 4;
        private static final int MAX_WITHIN = 6;
        private static final int MAX_DIGITS = 3;
        private static final String SIGNS = ";:+-*()[]=<>";

        int fed = 0;
        int fault = 0;
        int place = NONE;
        private final byte[] text = new byte[MAX_TEXT];
        private final Laws laws = new Laws();
        private Net told;
        private int end;
        // The token at hand: its first place, the place behind it (the same at the end and where
        // no token begins, so that it is like none), its number if it is one.
        private int start;
        private int behind;
        private int number;
        private boolean inMay;

        /** Four bytes, the highest first, as far as there is room. */
        void putOnTape(int four) {
            for (int shift = 24; shift >= 0 && fed < MAX_TEXT; shift -= 8) {
                text[fed] = (byte) (four >>> shift);
                fed++;
            }
        }

        /** The net that the first n bytes tell, no more than there are; null: there is a fault. */
        Net readNet(int n) {
            fed = 0;
            fault = 0;
            place = NONE;
            end = n;
            behind = 0;
            told = new Net();
            laws.begin();
            advance();
            boolean good = readHead();
            for (int i = 0; i < MAX_TEXT && good && start < end; i++) {
                good = readLine();
            }
            if (!good) {
                return null;
            }
            told.settle(laws);
            return told;
        }

        private boolean readHead() {
            if (!pass("net") || !pass("nodes")) {
                return false;
            }
            int nodes = readNumber(1, MAX_NODES, 0);
            if (nodes < 0 || !pass("rate")) {
                return false;
            }
            int rate = readNumber(0, RATES - 1, 0);
            if (rate < 0 || !pass(";")) {
                return false;
            }
            told.nodes = nodes;
            told.toldRate = rate;
            told.lines = 1;
            return true;
        }

        private boolean readLine() {
            boolean good;
            if (isAt("link")) {
                good = readLink();
            } else if (isAt("costs")) {
                good = readLaw(false);
            } else if (isAt("may")) {
                good = readLaw(true);
            } else {
                good = refuse(OUT_OF_PLACE);
            }
            if (!good || !pass(";")) {
                return false;
            }
            told.lines++;
            return true;
        }

        private boolean readLink() {
            if (told.links >= MAX_LINKS) {
                return refuse(ONE_TOO_MANY);
            }
            advance();
            int a = readNumber(0, told.nodes - 1, 0);
            if (a < 0) {
                return false;
            }
            int b = readNumber(0, told.nodes - 1, 1 << a | told.joinedWith(a));
            if (b < 0 || !pass("long")) {
                return false;
            }
            int length = readNumber(1, MAX_LONG, 0);
            if (length < 0 || !pass("work")) {
                return false;
            }
            int units = readNumber(0, MAX_WORK, 0);
            if (units < 0) {
                return false;
            }
            told.addLink(a, b, length, units);
            return true;
        }

        private boolean readLaw(boolean ofMay) {
            inMay = ofMay;
            advance();
            if (!pass(":")) {
                return false;
            }
            laws.open(ofMay);
            if (!(ofMay ? readTruth(0) : readSum(0))) {
                return false;
            }
            laws.close(ofMay);
            return true;
        }

        private boolean readTruth(int within) {
            boolean good = readBoth(within);
            for (int i = 0; i < MAX_TEXT && good && isAt("or"); i++) {
                advance();
                good = readBoth(within);
                laws.put(Laws.OR);
            }
            return good;
        }

        private boolean readBoth(int within) {
            boolean good = readUnit(within);
            for (int i = 0; i < MAX_TEXT && good && isAt("and"); i++) {
                advance();
                good = readUnit(within);
                laws.put(Laws.AND);
            }
            return good;
        }

        private boolean readUnit(int within) {
            if (isAt("not")) {
                if (!goWithin(within) || !readUnit(within + 1)) {
                    return false;
                }
                laws.put(Laws.NOT);
                return true;
            }
            if (isAt("[")) {
                return goWithin(within) && readTruth(within + 1) && pass("]");
            }
            if (!readSum(within)) {
                return false;
            }
            int sign = isAt("=") ? Laws.SAME : isAt("<") ? Laws.LESS : isAt(">") ? Laws.MORE : NONE;
            if (sign < 0) {
                return refuse(OUT_OF_PLACE);
            }
            advance();
            boolean good = readSum(within);
            laws.put(sign);
            return good;
        }

        private boolean readSum(int within) {
            boolean good = readTerm(within);
            for (int i = 0; i < MAX_TEXT && good && (isAt("+") || isAt("-")); i++) {
                int sign = isAt("+") ? Laws.ADD : Laws.LESSEN;
                advance();
                good = readTerm(within);
                laws.put(sign);
            }
            return good;
        }

        private boolean readTerm(int within) {
            boolean good = readAtom(within);
            for (int i = 0; i < MAX_TEXT && good && isAt("*"); i++) {
                advance();
                good = readAtom(within);
                laws.put(Laws.TIMES);
            }
            return good;
        }

        private boolean readAtom(int within) {
            if (isAt("(")) {
                return goWithin(within) && readSum(within + 1) && pass(")");
            }
            if (isAt("if")) {
                return goWithin(within) && readChoice(within + 1);
            }
            int code = number >= 0 ? number : wordCode();
            if (code < 0) {
                return refuse(OUT_OF_PLACE);
            }
            laws.put(code);
            advance();
            return true;
        }

        private boolean readChoice(int within) {
            if (!readTruth(within) || !pass("then") || !readSum(within) || !pass("else")
                    || !readSum(within) || !pass("end")) {
                return false;
            }
            laws.put(Laws.CHOOSE);
            return true;
        }

        /** What stands for the word at hand in a law's code; NONE: it tells no number here. */
        private int wordCode() {
            if (isAt("rate")) {
                return Laws.TOLD;
            }
            if (isAt("long")) {
                return Laws.TOLD + 1;
            }
            if (isAt("work")) {
                return Laws.TOLD + 2;
            }
            if (isAt(inMay ? "links" : "from")) {
                return Laws.TOLD + 3;
            }
            return isAt(inMay ? "chords" : "to") ? Laws.TOLD + 4 : NONE;
        }

        /** Passes a token that holds others, if there aren't too many within one another. */
        private boolean goWithin(int within) {
            if (within >= MAX_WITHIN) {
                return refuse(ONE_TOO_MANY);
            }
            advance();
            return true;
        }

        /** Passes a number within bounds that isn't among some refused ones; NONE: a fault. */
        private int readNumber(int least, int most, int refusedBits) {
            if (number < 0) {
                refuse(OUT_OF_PLACE);
                return NONE;
            }
            if (number < least || number > most || (refusedBits >> number & 1) != 0) {
                refuse(OUT_OF_BOUNDS);
                return NONE;
            }
            int read = number;
            advance();
            return read;
        }

        private boolean pass(String token) {
            if (!isAt(token)) {
                return refuse(OUT_OF_PLACE);
            }
            advance();
            return true;
        }

        /** Notes a fault of the token at hand, unless there is one already. */
        private boolean refuse(int kind) {
            if (fault == 0) {
                fault = kind;
                place = start;
            }
            return false;
        }

        private boolean isAt(String token) {
            if (behind - start != token.length()) {
                return false;
            }
            for (int i = start; i < behind; i++) {
                if (text[i] != token.charAt(i - start)) {
                    return false;
                }
            }
            return true;
        }

        private void advance() {
            while (behind < end && (text[behind] == 10 || text[behind] == 32)) {
                behind++;
            }
            start = behind;
            number = NONE;
            if (start >= end) {
                return;
            }
            int first = text[start];
            if (isLetter(first)) {
                while (behind < end && isLetter(text[behind])) {
                    behind++;
                }
            } else if (isDigit(first)) {
                readDigits();
            } else if (first > 0 && SIGNS.indexOf((char) first) >= 0) {
                behind++;
            } else {
                refuse(NO_TOKEN);
            }
        }

        private void readDigits() {
            int value = 0;
            while (behind < end && isDigit(text[behind])) {
                value = behind - start < MAX_DIGITS ? 10 * value + text[behind] - '0' : value;
                behind++;
            }
            if (behind - start > MAX_DIGITS) {
                behind = start;
                refuse(NO_TOKEN);
            } else {
                number = value;
            }
        }

        private static boolean isLetter(int sign) {
            return sign >= 'a' && sign <= 'z';
        }

        private static boolean isDigit(int sign) {
            return sign >= '0' && sign <= '9';
        }
    }

    /**
     * The laws of a text in the order in which they are worked out: numbers below TOLD stand for
     * themselves, then come the five told numbers, then what is done with the latest ones.
     */
    private static final class Laws {
        static final int TOLD = 1000;
        static final int ADD = 1005;
        static final int LESSEN = 1006;
        static final int TIMES = 1007;
        static final int SAME = 1008;
        static final int LESS = 1009;
        static final int MORE = 1010;
        static final int AND = 1011;
        static final int OR = 1012;
        static final int NOT = 1013;
        static final int CHOOSE = 1014;
        private static final long MOST = 1000000L;
        private static final int MAX_LINK_COST = 99;
        // Seven levels at most, on each at most seven numbers that wait for others.
        private static final int MAX_WAITING = 64;

        // Each code comes of a token of its own, so a text's code is no longer than the text.
        private final int[] code = new int[MAX_TEXT];
        private int size;
        private int costsStart;
        private int costsEnd;
        private int mayStart;
        private int mayEnd;
        private final int[] told = new int[5];
        private final int[] stack = new int[MAX_WAITING];

        void begin() {
            size = 0;
            costsStart = 0;
            costsEnd = 0;
            mayStart = 0;
            mayEnd = 0;
        }

        void open(boolean ofMay) {
            if (ofMay) {
                mayStart = size;
            } else {
                costsStart = size;
            }
        }

        void close(boolean ofMay) {
            if (ofMay) {
                mayEnd = size;
            } else {
                costsEnd = size;
            }
        }

        void put(int c) {
            if (size < code.length) {
                code[size] = c;
                size++;
            }
        }

        /** The numbers for words: rate, long, work, and from, to or links, chords. */
        void tell(int rate, int length, int units, int third, int fourth) {
            told[0] = rate;
            told[1] = length;
            told[2] = units;
            told[3] = third;
            told[4] = fourth;
        }

        int linkCost(int withoutLaw) {
            if (costsStart == costsEnd) {
                return withoutLaw;
            }
            return Math.max(1, Math.min(MAX_LINK_COST, workOut(costsStart, costsEnd)));
        }

        boolean mayBe() {
            return mayStart == mayEnd || workOut(mayStart, mayEnd) != 0;
        }

        /** Both ways of a choice are worked out: nothing can go wrong in the one not chosen. */
        private int workOut(int first, int last) {
            int top = 0;
            for (int i = first; i < last; i++) {
                int c = code[i];
                if (c < ADD) {
                    if (top < MAX_WAITING) {
                        stack[top] = c < TOLD ? c : told[c - TOLD];
                        top++;
                    }
                } else if (c == NOT) {
                    if (top > 0) {
                        stack[top - 1] = 1 - stack[top - 1];
                    }
                } else if (c == CHOOSE) {
                    if (top > 2) {
                        top -= 2;
                        stack[top - 1] = stack[top - 1] != 0 ? stack[top] : stack[top + 1];
                    }
                } else if (top > 1) {
                    top--;
                    stack[top - 1] = join(c, stack[top - 1], stack[top]);
                }
            }
            return top > 0 ? stack[0] : 0;
        }

        private static int join(int c, int a, int b) {
            switch (c) {
                case ADD:
                    return within((long) a + b);
                case LESSEN:
                    return within((long) a - b);
                case TIMES:
                    return within((long) a * b);
                case SAME:
                    return a == b ? 1 : 0;
                case LESS:
                    return a < b ? 1 : 0;
                case MORE:
                    return a > b ? 1 : 0;
                case AND:
                    return a & b;
                default:
                    return a | b;
            }
        }

        private static int within(long v) {
            return (int) Math.max(-MOST, Math.min(MOST, v));
        }
    }

    /** What can be undone: the rate, copies (by cycle), failed links, where units run. */
    private static final class State {
        int rate = 0;
        int failed = 0;
        final int[] copies = new int[MAX_RINGS];
        // Of unit u of link l, at l * MAX_WORK + u: NONE, or its path's links in the lowest bits
        // and above them its slot, MAX_COPIES times the cycle and the copy.
        final int[] where = new int[MAX_UNITS];

        State() {
            for (int i = 0; i < MAX_UNITS; i++) {
                where[i] = NONE;
            }
        }

        static int placeOf(int slot, int path) {
            return slot << MAX_LINKS | path;
        }

        static int pathAt(int place) {
            return place & (1 << MAX_LINKS) - 1;
        }

        void copyFrom(State other) {
            rate = other.rate;
            failed = other.failed;
            System.arraycopy(other.copies, 0, copies, 0, MAX_RINGS);
            System.arraycopy(other.where, 0, where, 0, MAX_UNITS);
        }

        void begin(int firstRate) {
            rate = firstRate;
            for (int c = 0; c < MAX_RINGS; c++) {
                copies[c] = 0;
            }
            mendAll();
        }

        void freshFrom(State other) {
            copyFrom(other);
            mendAll();
        }

        private void mendAll() {
            failed = 0;
            for (int i = 0; i < MAX_UNITS; i++) {
                where[i] = NONE;
            }
        }

        boolean hasFailed(int l) {
            return (failed >> l & 1) != 0;
        }

        int allCopies() {
            int sum = 0;
            for (int c = 0; c < MAX_RINGS; c++) {
                sum += copies[c];
            }
            return sum;
        }
    }

    /** Does deeds on states: each answers 0, or why it can't be, and then nothing has changed. */
    private static final class Switching {
        // By slot, the links on which units run; all 0 but while lost units try.
        private final int[] busy = new int[MAX_RINGS * MAX_COPIES];

        int layCopy(Net net, State state, int r) {
            int cycle = net.cycleOf(state.rate, r);
            if (cycle < 0) {
                return NO_LINK_RING_RATE;
            }
            if (state.copies[cycle] >= MAX_COPIES) {
                return NOT_AS_IT_IS;
            }
            state.copies[cycle]++;
            tryLost(net, state);
            return 0;
        }

        int takeCopy(Net net, State state, int r) {
            int cycle = net.cycleOf(state.rate, r);
            if (cycle < 0) {
                return NO_LINK_RING_RATE;
            }
            if (state.copies[cycle] <= 0) {
                return NOT_AS_IT_IS;
            }
            state.copies[cycle]--;
            int slot = cycle * MAX_COPIES + state.copies[cycle];
            for (int i = 0; i < MAX_UNITS; i++) {
                if (state.where[i] >> MAX_LINKS == slot) {
                    state.where[i] = NONE;
                }
            }
            tryLost(net, state);
            return 0;
        }

        int failLink(Net net, State state, int l) {
            if (!net.hasLink(l)) {
                return NO_LINK_RING_RATE;
            }
            if (state.hasFailed(l)) {
                return NOT_AS_IT_IS;
            }
            state.failed |= 1 << l;
            for (int i = 0; i < MAX_UNITS; i++) {
                if (state.where[i] >= 0 && (State.pathAt(state.where[i]) >> l & 1) != 0) {
                    state.where[i] = NONE;
                }
            }
            tryLost(net, state);
            return 0;
        }

        int mendLink(Net net, State state, int l) {
            if (!net.hasLink(l)) {
                return NO_LINK_RING_RATE;
            }
            if (!state.hasFailed(l)) {
                return NOT_AS_IT_IS;
            }
            state.failed &= ~(1 << l);
            for (int u = 0; u < MAX_WORK; u++) {
                state.where[l * MAX_WORK + u] = NONE;
            }
            tryLost(net, state);
            return 0;
        }

        int changeRate(Net net, State state, int rate) {
            if (rate < 0 || rate >= RATES) {
                return NO_LINK_RING_RATE;
            }
            if (net.may[rate] != net.may[state.rate]) {
                state.begin(rate);
            }
            state.rate = rate;
            return 0;
        }

        int doDeed(Net net, State state, long deed) {
            if (deed < 10 || deed > 399) {
                return NO_LINK_RING_RATE;
            }
            int v = (int) deed;
            if (v < 20) {
                return changeRate(net, state, v - 10);
            }
            if (v >= 300) {
                return takeCopy(net, state, v - 300);
            }
            if (v >= 200) {
                return layCopy(net, state, v - 200);
            }
            if (v >= 110 && v < 120) {
                return mendLink(net, state, v - 110);
            }
            return v >= 100 && v < 110 ? failLink(net, state, v - 100) : NO_LINK_RING_RATE;
        }

        /** Deeds are done till one can't be: how many. */
        int doAll(Net net, State state, Tray deeds) {
            int done = 0;
            while (done < deeds.size && doDeed(net, state, deeds.numbers[done]) == 0) {
                done++;
            }
            return done;
        }

        /** Drawn deeds are done, those that can be: how many. */
        int doYear(Net net, State state, int seed, int times) {
            int x = seed;
            int done = 0;
            for (int i = 0; i < times; i++) {
                x = nextDraw(x);
                int sort = (x >>> 16) % 5;
                x = nextDraw(x);
                int draw = x >>> 16;
                int deed = sort < 2 ? 200 + draw % 12 : sort == 2 ? 300 + draw % 12
                        : sort == 3 ? 100 + draw % 10 : 110 + draw % 10;
                done += doDeed(net, state, deed) == 0 ? 1 : 0;
            }
            return done;
        }

        private static int nextDraw(int x) {
            return 1103515245 * x + 12345;
        }

        int lostUnits(Net net, State state) {
            int sum = 0;
            for (int l = 0; l < net.links; l++) {
                sum += lostOf(net, state, l);
            }
            return sum;
        }

        int lostOf(Net net, State state, int l) {
            int sum = 0;
            for (int u = 0; u < net.work[l] && state.hasFailed(l); u++) {
                sum += state.where[l * MAX_WORK + u] < 0 ? 1 : 0;
            }
            return sum;
        }

        private void tryLost(Net net, State state) {
            if (state.failed == 0) {
                return;
            }
            for (int i = 0; i < MAX_UNITS; i++) {
                if (state.where[i] >= 0) {
                    busy[state.where[i] >> MAX_LINKS] |= State.pathAt(state.where[i]);
                }
            }
            for (int l = 0; l < net.links; l++) {
                for (int u = 0; u < net.work[l] && state.hasFailed(l); u++) {
                    if (state.where[l * MAX_WORK + u] < 0) {
                        state.where[l * MAX_WORK + u] = firstFree(net, state, l);
                    }
                }
            }
            for (int i = 0; i < MAX_UNITS; i++) {
                if (state.where[i] >= 0) {
                    busy[state.where[i] >> MAX_LINKS] = 0;
                }
            }
        }

        /** Takes the first free path for a unit of a link: its place; NONE: there is none. */
        private int firstFree(Net net, State state, int l) {
            for (int c = 0; c < net.cycles; c++) {
                int copies = net.pathOf(c, l, 0) == 0 ? 0 : state.copies[c];
                for (int copy = 0; copy < copies; copy++) {
                    int slot = c * MAX_COPIES + copy;
                    for (int side = 0; side < 2; side++) {
                        int path = net.pathOf(c, l, side);
                        if (path != 0 && (path & (state.failed | busy[slot])) == 0) {
                            busy[slot] |= path;
                            return State.placeOf(slot, path);
                        }
                    }
                }
            }
            return NONE;
        }
    }

    /** Covers by the rings of one net and rate; what links need is told by those that need 1, 2. */
    private static final class Covering {
        private static final int FAR = 30000;
        private static final int MEMORY = 2048;
        private static final int MEMORY_SHIFT = 21;
        private static final int SCATTER = 0x9E3779B1;
        private static final int PRICE_BITS = 16;
        private static final int NEEDS_BITS = 2 * MAX_LINKS + 1;

        private Net net;
        private int rate;
        int rings;
        private final int[] on = new int[MAX_RINGS];
        private final int[] across = new int[MAX_RINGS];
        private final int[] price = new int[MAX_RINGS];
        private int withUse;
        // Least prices found of late, each behind a tag of what it is the price of; none is lost
        // for good, a forgotten one is found again. The age strikes those of other rings.
        private long[] memory = new long[0];
        private long age = 0L;
        final int[] chosen = new int[MAX_RINGS];
        int chosenCopies;
        int chosenCost;

        private void lookAt(Net ofNet, int byRate) {
            if (net == ofNet && rate == byRate) {
                return;
            }
            net = ofNet;
            rate = byRate;
            rings = Math.min(MAX_RINGS, net.ringCount(rate));
            withUse = 0;
            age++;
            for (int r = 0; r < rings; r++) {
                int cycle = net.cycleOf(rate, r);
                if (cycle >= 0) {
                    on[r] = net.on[cycle];
                    across[r] = net.chords[cycle];
                    price[r] = net.priceOf(cycle, rate);
                    withUse |= on[r] | across[r];
                }
            }
        }

        /** Finds what is to be laid yet; false: it can't be. */
        boolean solve(Net ofNet, State state, int aim) {
            lookAt(ofNet, state.rate);
            int once = net.lacking(state, 1);
            int twice = net.lacking(state, 2);
            if ((once & ~withUse) != 0) {
                return false;
            }
            if (memory.length == 0) {
                memory = new long[MEMORY];
            }
            chosenCopies = 0;
            chosenCost = 0;
            for (int r = 0; r < rings; r++) {
                chosen[r] = 0;
            }
            for (int step = 0; step < MAX_UNITS && once != 0; step++) {
                int r = firstOfLeast(once, twice, aim);
                chosen[r]++;
                chosenCopies++;
                chosenCost += price[r];
                int left = onceBehind(r, once, twice);
                twice = twiceBehind(r, twice);
                once = left;
            }
            return true;
        }

        /** The first ring, of those with use for the first link in need, by which least is paid. */
        private int firstOfLeast(int once, int twice, int aim) {
            int link = once & -once;
            int all = FAR;
            int found = 0;
            for (int r = 0; r < rings; r++) {
                if (((on[r] | across[r]) & link) != 0) {
                    int paid = paidFrom(r, once, twice, aim, 0);
                    if (paid < all) {
                        all = paid;
                        found = r;
                    }
                }
            }
            return found;
        }

        private int paidFrom(int r, int once, int twice, int aim, int depth) {
            int left = onceBehind(r, once, twice);
            return (aim == 0 ? price[r] : 1) + leastPrice(left, twiceBehind(r, twice), aim, depth + 1);
        }

        private int leastPrice(int once, int twice, int aim, int depth) {
            if (once == 0) {
                return 0;
            }
            if (depth > MAX_UNITS) {
                return FAR;
            }
            int needs = (once << MAX_LINKS | twice) * 2 + aim;
            int slot = needs * SCATTER >>> MEMORY_SHIFT;
            long tag = age << NEEDS_BITS | needs;
            if (slot < memory.length && memory[slot] >>> PRICE_BITS == tag) {
                return (int) memory[slot] & (1 << PRICE_BITS) - 1;
            }
            int link = once & -once;
            int all = FAR;
            for (int r = 0; r < rings; r++) {
                if (((on[r] | across[r]) & link) != 0) {
                    all = Math.min(all, paidFrom(r, once, twice, aim, depth));
                }
            }
            if (slot < memory.length) {
                memory[slot] = tag << PRICE_BITS | all;
            }
            return all;
        }

        private int onceBehind(int r, int once, int twice) {
            return once & ~(on[r] | across[r]) | twice & on[r];
        }

        private int twiceBehind(int r, int twice) {
            return twice & ~(on[r] | across[r]);
        }

        /** In how many ways so many copies are a cover by themselves. */
        int countWays(Net ofNet, int byRate, int n) {
            lookAt(ofNet, byRate);
            return waysFrom(0, n, net.working(1), net.working(2));
        }

        private int waysFrom(int first, int n, int once, int twice) {
            if (n <= 0) {
                return once == 0 ? 1 : 0;
            }
            int sum = 0;
            for (int r = first; r < rings; r++) {
                sum += waysFrom(r, n - 1, onceBehind(r, once, twice), twiceBehind(r, twice));
            }
            return sum;
        }

        /** The ring of the least cost by use, of those with use for a link, or of all (NONE). */
        int bestFor(Net ofNet, int byRate, int l) {
            lookAt(ofNet, byRate);
            int found = NONE;
            for (int r = 0; r < rings; r++) {
                boolean counts = l < 0 || ((on[r] | across[r]) >> l & 1) != 0;
                if (counts && (found < 0 || price[r] * usesOf(found) < price[found] * usesOf(r))) {
                    found = r;
                }
            }
            return found;
        }

        private int usesOf(int r) {
            return Integer.bitCount(on[r]) + 2 * Integer.bitCount(across[r]);
        }

        /** The bound comes into a fraction; false: there is none. */
        boolean tellBound(Net ofNet, int byRate, Fraction into) {
            into.begin(0L, 1L);
            for (int l = 0; l < ofNet.links; l++) {
                if (ofNet.work[l] > 0) {
                    int r = bestFor(ofNet, byRate, l);
                    if (r < 0) {
                        return false;
                    }
                    into.add((long) ofNet.work[l] * price[r], usesOf(r));
                }
            }
            return true;
        }

        int withoutUse(Net ofNet, int byRate) {
            lookAt(ofNet, byRate);
            return (1 << net.links) - 1 & ~withUse;
        }
    }

    /** The latest states to go back to, each as it was ahead of a call. */
    private static final class History {
        private final State[] kept = newStates(MAX_UNDONE);
        private int next = 0;
        int size = 0;

        void keep(State state) {
            kept[next].copyFrom(state);
            next = (next + 1) % MAX_UNDONE;
            size = Math.min(size + 1, MAX_UNDONE);
        }

        /** Goes back over n calls, 1 to as many as there are. */
        void bringBack(int n, State into) {
            next = (next + MAX_UNDONE - n) % MAX_UNDONE;
            into.copyFrom(kept[next]);
            size -= n;
        }

        void forget() {
            size = 0;
        }
    }

    private static final class Tray {
        private static final int ABSENT = -1;
        private int sort = 0;
        int size = ABSENT;
        final long[] numbers = new long[MAX_NUMBERS];

        boolean isMissing() {
            return size < 0;
        }

        void begin(int ofSort, int n) {
            sort = ofSort;
            size = n;
            for (int i = 0; i < MAX_NUMBERS; i++) {
                numbers[i] = 0L;
            }
        }

        void put(int i, long v) {
            switch (sort) {
                case 0:
                    numbers[i] = (byte) v;
                    break;
                case 1:
                    numbers[i] = (short) v;
                    break;
                case 2:
                    numbers[i] = (int) v;
                    break;
                default:
                    numbers[i] = v;
                    break;
            }
        }
    }

    /** A fraction of no less than 0, in lowest terms. */
    private static final class Fraction {
        // Far more steps than two longs can need to their greatest common divisor.
        private static final int MAX_STEPS = 200;
        private long above = 0L;
        private long below = 1L;

        /** The number below is above 0. */
        void begin(long a, long b) {
            long common = commonDivisor(a, b);
            above = common == 0L ? a : a / common;
            below = common == 0L ? b : b / common;
        }

        void add(long a, long b) {
            begin(above * b + a * below, below * b);
        }

        long part(int what) {
            return what == 0 ? above : below;
        }

        private static long commonDivisor(long a, long b) {
            long x = a;
            long y = b;
            for (int i = 0; i < MAX_STEPS && y != 0L; i++) {
                long rest = x % y;
                x = y;
                y = rest;
            }
            return x;
        }
    }
}
