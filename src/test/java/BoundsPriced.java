/** Boundary cases of promises 38 to 41: rates by prices, which ring to ask for, chances by lots. */
final class BoundsPriced {
    private static final int ALL = 1023;
    /** Ring 0 (links 0, 1, 2) costs 3 and the rate, ring 1 (3, 4, 5) 3 by the rates 0 to 4 and 6 by the others. */
    private static final String TWO = "net nodes 6 rate 0;" + Bounds.link(0, 1, 1, 0) + Bounds.link(1, 2, 2, 0) + Bounds.link(2, 0, 2, 0)
            + Bounds.link(3, 4, 3, 0) + Bounds.link(4, 5, 3, 0) + Bounds.link(5, 3, 3, 0)
            + "costs:if long=1 then rate+1 else if long=2 then 1 else if rate<5 then 1 else 2 end end end;";

    private BoundsPriced() {
    }

    static void all() {
        pricedIs();
        rates();
        ratesHowMany();
        ratesNumbers();
        ringsAsNow();
        askFor();
        askByTwoRates();
        askNone();
        askAsRates();
        lots();
        chance();
        chanceRefused();
        mean();
        meanRefused();
    }

    private static SpareRings priced(String net, long... prices) {
        SpareRings x = Bounds.told(net);
        Bounds.fill(x, 0, 3, prices);
        return x;
    }

    private static void pricedIs() {
        Bounds.says(Bounds.TERMS, "PRICED in a TRAY (1 to 8 numbers: 1000 times a RING's number as now, and its COST): "
                + "RATES 0 to 9 by which each LINK of it costs so that its COST is that");
        for (int cost = 0; cost <= 15; cost++) {
            int want = cost >= 3 && cost <= 12 ? 1 << cost - 3 : 0;
            Bounds.due("rates of ring 0 for " + cost, priced(TWO, cost).rates(0), want);
            Bounds.due("rates of ring 1 for " + cost, priced(TWO, 1000 + cost).rates(0), cost == 3 ? 31 : cost == 6 ? ALL - 31 : 0);
        }
        Bounds.due("both: rate 4", priced(TWO, 7, 1003).rates(0), 16);
        Bounds.due("both: rate 5", priced(TWO, 1006, 8).rates(0), 32);
        Bounds.due("both: none", priced(TWO, 8, 1003).rates(0), 0);
        Bounds.due("two prices of one ring", priced(TWO, 1003, 1006).rates(0), 0);
        Bounds.due("by all rates", priced(Bounds.SQUARE, 10, 1007, 2007).rates(0), ALL);
        Bounds.due("one more", priced(Bounds.SQUARE, 10, 1007, 2008).rates(0), 0);
        Bounds.due("one less", priced(Bounds.SQUARE, 9).rates(0), 0);
        Bounds.due("the dearest", priced(Bounds.around(8, 1, 0) + "costs:99*rate;", 792).rates(0), ALL - 1);
        Bounds.due("the dearest but none", priced(Bounds.around(8, 1, 0) + "costs:99*rate;", 8).rates(0), 1);
    }

    private static void rates() {
        Bounds.says(38, "PRICED: RATES, as bits.");
        Bounds.same(() -> priced(TWO, 3), "rates(0), the first rate", 1, x -> x.rates(0));
        Bounds.same(() -> priced(TWO, 12), "rates(0), the last rate", 512, x -> x.rates(0));
        Bounds.same(Bounds::busy, "rates(1)", 0, x -> x.rates(1));
        SpareRings x = priced(TWO, 8);
        for (int rate = 0; rate <= 9; rate++) {
            x.rate(rate);
            Bounds.due("rates(0) at rate " + rate, x.rates(0), 32);
        }
        x.lay(0);
        x.fail(0);
        Bounds.due("rates(0) with a failed link", x.rates(0), 32);
    }

    private static void ratesHowMany() {
        Bounds.says(38, "-2: the TRAY; -6; -4: not 1 to 8 numbers;");
        int[] none = {4, -1, 32, Bounds.MAX, Bounds.MIN};
        Bounds.sameEach(Bounds::busy, "rates", -2, (x, t) -> x.rates(t), none);
        Bounds.sameEach(Bounds::fresh, "rates", -2, (x, t) -> x.rates(t), none);
        Bounds.same(Bounds::busy, "rates of a missing tray", -6, x -> x.rates(3));
        Bounds.sameEach(Bounds::fresh, "rates of a missing tray", -6, (x, t) -> x.rates(t), 0, 1, 2, 3);
        for (int n = 0; n <= 40; n++) {
            long[] prices = new long[n];
            java.util.Arrays.fill(prices, 1003);
            long[] wrong = prices.clone();
            java.util.Arrays.fill(wrong, -1);
            boolean good = n >= 1 && n <= 8;
            Bounds.due("rates of " + n + " numbers", priced(TWO, prices).rates(0), good ? 31 : -4);
            Bounds.due("rates of " + n + " wrong numbers", priced(TWO, wrong).rates(0), good ? -3 : -4);
            Bounds.due("ask of " + n + " numbers", priced(TWO, prices).ask(0), good ? 0 : -4);
        }
        Bounds.same(() -> priced(TWO), "rates of none", -4, x -> x.rates(0));
        Bounds.same(() -> priced(TWO, 3, 3, 3, 3, 3, 3, 3, 3, 3), "rates of nine", -4, x -> x.rates(0));
    }

    private static void ratesNumbers() {
        Bounds.says(38, "-3: one isn't a RING's number and a COST of 0 to 999.");
        long[] good = {0, 999, 1000, 1999};
        long[] wrong = {-1, 2000, 2003, -1000, -997, Integer.MIN_VALUE, Integer.MAX_VALUE, 1L << 32, (1L << 32) + 3, (1L << 40) + 3,
            Long.MAX_VALUE, Long.MIN_VALUE};
        for (long v : good) {
            Bounds.same(() -> priced(TWO, v), "rates of " + v, 0, x -> x.rates(0));
            Bounds.same(() -> priced(TWO, 1003, v), "rates of 1003, " + v, 0, x -> x.rates(0));
        }
        for (long v : wrong) {
            Bounds.same(() -> priced(TWO, v), "rates of " + v, -3, x -> x.rates(0));
            Bounds.same(() -> priced(TWO, 1003, v), "rates of 1003, " + v, -3, x -> x.rates(0));
            Bounds.same(() -> priced(TWO, v, 1003), "rates of " + v + ", 1003", -3, x -> x.rates(0));
            Bounds.same(() -> priced(TWO, 3, 3, 3, 3, 3, 3, 3, v), "rates of seven and " + v, -3, x -> x.rates(0));
            Bounds.same(() -> priced(TWO, 999, v), "rates of 999, " + v, -3, x -> x.rates(0));
        }
        SpareRings most = priced(Bounds.full(5, 1, 0), 36003);
        Bounds.due("rates of ring 36", most.rates(0), ALL);
        Bounds.due("rates of 36999", priced(Bounds.full(5, 1, 0), 36999).rates(0), 0);
        Bounds.due("rates of 37000", priced(Bounds.full(5, 1, 0), 37000).rates(0), -3);
        Bounds.due("rates of 0 without rings", priced(Bounds.SQUARE + "may:1=2;", 0).rates(0), -3);
        SpareRings bytes = Bounds.told(TWO);
        Bounds.fill(bytes, 0, 0, 12);
        Bounds.due("rates of a byte", bytes.rates(0), 512);
        bytes.write(0, 0, 128);
        Bounds.due("rates of 128 in a byte", bytes.rates(0), -3);
    }

    private static void ringsAsNow() {
        Bounds.says(Bounds.TERMS, "(RINGS as by the RATE now).");
        SpareRings x = priced(TWO + "may:rate<5 or long=9;", 3);
        Bounds.due("ring 0 of two", x.rates(0), 1);
        x.write(0, 0, 1003);
        Bounds.due("ring 1 of two", x.rates(0), 31);
        x.rate(5);
        Bounds.due("there is no ring 1 now", x.rates(0), -3);
        x.write(0, 0, 3);
        Bounds.due("it is ring 0 now", x.rates(0), 31);
        x.write(0, 0, 6);
        Bounds.due("by rates that it may be by or not", x.rates(0), ALL - 31);
        x.write(0, 0, 999);
        Bounds.due("the last number", x.rates(0), 0);
        x.write(0, 0, 1000);
        Bounds.due("none behind it", x.rates(0), -3);
    }

    private static void askFor() {
        Bounds.says(39, "The RING to ask for next: the greatest number of these RATES by which its COST is the same is least, the first.");
        // By the rates 0 to 4 ring 0 costs five prices, ring 1 one: 1 by 5.
        Bounds.same(() -> priced(TWO, 1003), "ask of rates 0 to 4", 0, x -> x.ask(0));
        // By one rate alone both cost one price: the first of them.
        Bounds.same(() -> priced(TWO, 3), "ask of rate 0", 0, x -> x.ask(0));
        Bounds.same(() -> priced(TWO, 12), "ask of rate 9", 0, x -> x.ask(0));
        Bounds.due("ask of all rates alike", priced(Bounds.SQUARE, 10).ask(0), 0);
        // The ring that tells most is the last of all; then all three cost the same by all.
        String last = TWO.replace("costs:", "link 0 3 long 9 work 0;costs:").replace("if long=1 then rate+1 else if long=2", "if long<3");
        SpareRings x = priced(last.replace("if long<3 then 1 else if rate<5 then 1 else 2 end end end", "if long<3 then 1 else if long=9 then 1 "
                + "else if rate<3 then 1 else if rate<6 then 2 else 3 end end end end"), 3);
        Bounds.due("rates of ring 0", x.rates(0), ALL);
        Bounds.due("ask: ring 0 by ten, ring 1 by four at most", x.ask(0), 1);
        x.write(0, 0, 1003);
        Bounds.due("rates 0, 1, 2", x.rates(0), 7);
        Bounds.due("ask: both by three", x.ask(0), 0);
        // Greatest numbers of rates: ring 0 (rates by fives) 5, ring 1 (by fours and two) 4.
        String fours = "costs:if long<3 then if rate<5 then 1 else 2 end else if rate<4 then 1 else if rate<8 then 2 else 3 end end end;";
        SpareRings y = priced(TWO.substring(0, TWO.indexOf("costs")) + fours + "may:long>0;", 3);
        Bounds.due("rates of ring 0", y.rates(0), 31);
        Bounds.due("ask of 0 to 4: ring 0 by five, ring 1 by four", y.ask(0), 1);
        y.write(0, 0, 1006);
        Bounds.due("rates of ring 1", y.rates(0), 0xF0);
        Bounds.due("ask of 4 to 7: ring 0 by three (5, 6, 7), ring 1 by four", y.ask(0), 0);
    }

    /** One ring costs the same by two rates, the other one doesn't: that one is to be asked for. */
    private static void askByTwoRates() {
        Bounds.says(39, "the greatest number of these RATES by which its COST is the same is least, the first.");
        String net = TWO.substring(0, TWO.indexOf("costs"));
        for (int a = 0; a < 10; a++) {
            for (int b = a + 1; b < 10; b++) {
                String two = "if rate=" + a + " or rate=" + b + " then 50 else rate+1 end";
                String first = "costs:if long<3 then " + two + " else rate+1 end;";
                String second = "costs:if long<3 then rate+1 else " + two + " end;";
                Bounds.due("rates " + a + ", " + b, priced(net + first, 150).rates(0), 1 << a | 1 << b);
                Bounds.due("ask by rates " + a + ", " + b, priced(net + first, 150).ask(0), 1);
                Bounds.due("ask by rates " + a + ", " + b + " of the second ring", priced(net + second, 1150).ask(0), 0);
                Bounds.due("ask by rates " + a + ", " + b + " of both", priced(net + "costs:" + two + ";", 150).ask(0), 0);
            }
        }
    }

    private static void askNone() {
        Bounds.says(39, "NONE: there are none, no RINGS;");
        Bounds.same(() -> priced(TWO, 999), "ask of no rate", -1, x -> x.ask(0));
        Bounds.same(() -> priced(TWO, 3, 1006), "ask of no rate by both", -1, x -> x.ask(0));
        Bounds.same(() -> priced(TWO, 3, 1003), "ask of one rate by both", 0, x -> x.ask(0));
        // Without rings no number is a ring's: refused, which is ahead of NONE.
        Bounds.same(() -> priced(Bounds.SQUARE + "may:1=2;", 0), "ask without rings", -3, x -> x.ask(0));
    }

    private static void askAsRates() {
        Bounds.says(39, "as rates().");
        Bounds.sameEach(Bounds::busy, "ask", -2, (x, t) -> x.ask(t), 4, -1, 32, Bounds.MAX, Bounds.MIN);
        Bounds.same(Bounds::busy, "ask of a missing tray", -6, x -> x.ask(3));
        Bounds.sameEach(Bounds::fresh, "ask of a missing tray", -6, (x, t) -> x.ask(t), 0, 1, 2, 3);
        Bounds.same(Bounds::busy, "ask of an empty tray", -4, x -> x.ask(2));
        Bounds.same(() -> priced(TWO, 3, 3, 3, 3, 3, 3, 3, 3, 3), "ask of nine", -4, x -> x.ask(0));
        Bounds.same(() -> priced(TWO, 1003, 1003, 1003, 1003, 1003, 1003, 1003, 1003), "ask of eight", 0, x -> x.ask(0));
        for (long v : new long[] {-1, 2000, 2003, 1L << 32, Long.MIN_VALUE, Long.MAX_VALUE}) {
            Bounds.same(() -> priced(TWO, v), "ask of " + v, -3, x -> x.ask(0));
            Bounds.same(() -> priced(TWO, 999, v), "ask of 999, " + v, -3, x -> x.ask(0));
        }
        Bounds.same(() -> priced(TWO, 1999), "ask of 1999", -1, x -> x.ask(0));
    }

    // ---- chances

    private static int common(int a, int b) {
        return b == 0 ? a : common(b, a % b);
    }

    private static void chances(SpareRings x, int n, int keeps, int units, int draws) {
        Bounds.due("chance(" + n + ", 0)", x.chance(n, 0), keeps / common(keeps, draws));
        Bounds.due("chance(" + n + ", 1)", x.chance(n, 1), draws / common(keeps, draws));
        Bounds.due("mean(" + n + ", 0)", x.mean(n, 0), units / common(units, draws));
        Bounds.due("mean(" + n + ", 1)", x.mean(n, 1), draws / common(units, draws));
    }

    private static void lots() {
        Bounds.says(Bounds.TERMS, "CHANCE: n times one of ten lots is drawn, each as likely: by lot v LINK v fails (of others, of failed ones: nothing).");
        int[] draws = {1, 10, 100, 1000};
        int[] without = {1, 9, 81, 729};
        for (int links = 1; links <= 7; links++) {
            StringBuilder text = new StringBuilder("net nodes 8 rate 0;");
            for (int l = 0; l < links; l++) {
                text.append(Bounds.link(l, l + 1, 1, l == links - 1 ? 1 : 0));
            }
            for (int n = 0; n <= 3; n++) {
                chances(Bounds.told(text.toString()), n, without[n], draws[n] - without[n], draws[n]);
            }
        }
        SpareRings tenth = Bounds.told(Bounds.full(5, 1, 0).replace("link 3 4 long 1 work 0", "link 3 4 long 1 work 2"));
        for (int n = 0; n <= 3; n++) {
            chances(tenth, n, without[n], 2 * (draws[n] - without[n]), draws[n]);
        }
        // All ten links have a unit: some lot fails one; each is lost in as many draws as any.
        SpareRings all = Bounds.told(Bounds.full(5, 1, 1));
        for (int n = 0; n <= 3; n++) {
            chances(all, n, n == 0 ? 1 : 0, 10 * (draws[n] - without[n]), draws[n]);
        }
        // A failed link's lot does nothing: its unit is lost anyhow.
        tenth.fail(9);
        for (int n = 0; n <= 3; n++) {
            chances(tenth, n, 0, 2 * draws[n], draws[n]);
        }
        all.fail(0);
        Bounds.due("mean(1, 0): lot 0 does nothing, nine lose one more", all.mean(1, 0), 19);
        Bounds.due("mean(1, 1)", all.mean(1, 1), 10);
        keepsAgain();
    }

    /** A lot may lose a unit that a later one lets find a path again: what is lost behind the last one counts. */
    private static void keepsAgain() {
        SpareRings x = Bounds.square();
        x.lay(0);
        int keeps = 0;
        int units = 0;
        for (int a = 0; a < 10; a++) {
            for (int b = 0; b < 10; b++) {
                SpareRings y = Bounds.square();
                y.lay(0);
                y.fail(a);
                y.fail(b);
                keeps += y.lost() == 0 ? 1 : 0;
                units += y.lost();
            }
        }
        chances(x, 2, keeps, units, 100);
    }

    private static void chance() {
        Bounds.says(40, "CHANCE that no unit is LOST behind n lots (0 to 3) from now on, what 0: the number above, 1: below, in lowest terms.");
        for (int n = 0; n <= 3; n++) {
            int a = n;
            Bounds.same(Bounds::fresh, "chance(" + n + ", 0)", 1, x -> x.chance(a, 0));
            Bounds.same(Bounds::fresh, "chance(" + n + ", 1)", 1, x -> x.chance(a, 1));
            Bounds.same(Bounds::broken, "chance(" + n + ", 0), lost now", 0, x -> x.chance(a, 0));
            Bounds.same(Bounds::broken, "chance(" + n + ", 1), lost now", 1, x -> x.chance(a, 1));
        }
        // Four of five links have work, so that six lots keep all: 6 by 10, 36 by 100, 216 by 1000.
        int[] above = {1, 3, 9, 27};
        int[] below = {1, 5, 25, 125};
        for (int n = 0; n <= 3; n++) {
            int a = n;
            Bounds.same(Bounds::square, "chance(" + n + ", 0)", above[n], x -> x.chance(a, 0));
            Bounds.same(Bounds::square, "chance(" + n + ", 1)", below[n], x -> x.chance(a, 1));
        }
        SpareRings x = Bounds.told(Bounds.full(5, 1, 1));
        Bounds.due("chance(3, 0) of ten links", x.chance(3, 0), 0);
        Bounds.due("chance(3, 1) of ten links", x.chance(3, 1), 1);
        x.fail(0);
        x.lay(0);
        Bounds.due("chance(0, 0) from now on", x.chance(0, 0), 1);
        SpareRings sure = Bounds.told(Bounds.full(5, 1, 0));
        Bounds.due("chance(3, 0) without work", sure.chance(3, 0), 1);
        Bounds.due("chance(3, 1) without work", sure.chance(3, 1), 1);
    }

    private static void chanceRefused() {
        Bounds.says(40, "-2: what; -3: n.");
        lotsRefused("chance", (x, n, what) -> x.chance(n, what));
    }

    private interface LotsCall {
        int on(SpareRings x, int n, int what);
    }

    private static void lotsRefused(String name, LotsCall call) {
        int[] wrong = {-1, 2, 3, 32, Bounds.MAX, Bounds.MIN};
        int[] wrongN = {-1, 4, 5, 32, Bounds.MAX, Bounds.MIN};
        for (int n : new int[] {-1, 0, 1, 2, 3, 4, Bounds.MAX, Bounds.MIN}) {
            Bounds.sameEach(Bounds::busy, name + "(" + n + ", what)", -2, (x, what) -> call.on(x, n, what), wrong);
            Bounds.sameEach(Bounds::fresh, name + "(" + n + ", what)", -2, (x, what) -> call.on(x, n, what), wrong);
        }
        for (int what : new int[] {0, 1}) {
            Bounds.sameEach(Bounds::busy, name + ", what " + what, -3, (x, n) -> call.on(x, n, what), wrongN);
            Bounds.sameEach(Bounds::fresh, name + ", what " + what, -3, (x, n) -> call.on(x, n, what), wrongN);
        }
    }

    private static void mean() {
        Bounds.says(41, "How many units are LOST on the mean behind n lots (0 to 3), what 0: above, 1: below, in lowest terms.");
        for (int n = 0; n <= 3; n++) {
            int a = n;
            Bounds.same(Bounds::fresh, "mean(" + n + ", 0)", 0, x -> x.mean(a, 0));
            Bounds.same(Bounds::fresh, "mean(" + n + ", 1)", 1, x -> x.mean(a, 1));
            Bounds.same(Bounds::broken, "mean(" + n + ", 0), all lost now", 5, x -> x.mean(a, 0));
            Bounds.same(Bounds::broken, "mean(" + n + ", 1), all lost now", 1, x -> x.mean(a, 1));
        }
        // Five units, each lost by one lot: 5 by 10, 5 times 19 by 100, 5 times 271 by 1000.
        int[] above = {0, 1, 19, 271};
        int[] below = {1, 2, 20, 200};
        for (int n = 0; n <= 3; n++) {
            int a = n;
            Bounds.same(Bounds::square, "mean(" + n + ", 0)", above[n], x -> x.mean(a, 0));
            Bounds.same(Bounds::square, "mean(" + n + ", 1)", below[n], x -> x.mean(a, 1));
        }
        SpareRings most = Bounds.told(Bounds.full(5, 1, 2));
        Bounds.due("mean(3, 0) of twenty units", most.mean(3, 0), 271);
        Bounds.due("mean(3, 1) of twenty units", most.mean(3, 1), 50);
        Bounds.due("mean(1, 0) of twenty units", most.mean(1, 0), 2);
        Bounds.due("mean(1, 1) of twenty units", most.mean(1, 1), 1);
    }

    private static void meanRefused() {
        Bounds.says(41, "-2: what; -3: n.");
        lotsRefused("mean", (x, n, what) -> x.mean(n, what));
    }
}
