/** Promises 38 and 39: rates by costs, which ring to ask for. */
public final class PricedTest {
    /** Ring 0 (links 0, 1, 2) costs by rate / 2, ring 1 (links 3, 4, 5) by the rate's third. */
    private static final String TWO = "net nodes 6 rate 0;link 0 1 long 1 work 0;link 1 2 long 1 work 0;link 2 0 long 1 work 0;"
            + "link 3 4 long 2 work 0;link 4 5 long 2 work 0;link 5 3 long 2 work 0;"
            + "costs:if long=1 then if rate<4 then 1 else 2 end else if rate<2 then 5 else if rate<6 then 6 else 7 end end end;";

    public static void main(String[] args) {
        SpareRings x = Check.told(TWO);
        Check.due("rates(4)", x.rates(4), -2);
        Check.due("rates(-1)", x.rates(-1), -2);
        Check.due("rates(0)", x.rates(0), -6);
        Check.due("ask(4)", x.ask(4), -2);
        Check.due("ask(0)", x.ask(0), -6);
        Check.fill(x, 0, 2);
        Check.due("rates of no numbers", x.rates(0), -4);
        Check.due("ask of no numbers", x.ask(0), -4);
        Check.fill(x, 0, 2, 3, 3, 3, 3, 3, 3, 3, 3, 3);
        Check.due("rates of nine numbers", x.rates(0), -4);
        Check.fill(x, 0, 2, -3, 3, 3, 3, 3, 3, 3, 3, 3);
        Check.due("-4 is ahead of -3", x.rates(0), -4);
        long[] wrong = {-1, 2000, 2003, 1L << 40, Long.MIN_VALUE};
        for (long v : wrong) {
            Check.fill(x, 0, 3, 3, v);
            Check.due("rates of " + v, x.rates(0), -3);
            Check.due("ask of " + v, x.ask(0), -3);
        }
        rates(x, 0xF, 3);
        rates(x, 0x3F0, 6);
        rates(x, 0x3, 1015);
        rates(x, 0x3C, 1018);
        rates(x, 0xC, 3, 1018);
        rates(x, 0x30, 1018, 6, 6, 6, 6, 6, 6, 6);
        rates(x, 0, 3, 1021);
        rates(x, 0, 999);
        rates(x, 0, 0);
        asks(x);
        byTheRateNow();
        byEachRate("costs:if rate<from*3 then long else rate+to end;");
        byEachRate("costs:if rate=from or rate=to*2 then 5 else if rate>4 then rate-4 else 2 end end;");
        byEachRate("costs:(rate-from*2)*(rate-to*2);");
        byEachRate("costs:rate*long;");
        Check.end();
    }

    private static void rates(SpareRings x, int bits, long... told) {
        Check.fill(x, 0, 2, told);
        Check.due("rates()", x.rates(0), bits);
        x.rate(7);
        Check.due("rates() by another rate now", x.rates(0), bits);
        x.rate(0);
    }

    private static void asks(SpareRings x) {
        // Of rates 0 to 3: ring 0 costs the same by all four, ring 1 by two.
        Check.fill(x, 1, 1, 3);
        Check.due("ask() of 0 to 3", x.ask(1), 1);
        // Of rates 4 to 9: the same by six; by two and four.
        Check.fill(x, 1, 1, 6);
        Check.due("ask() of 4 to 9", x.ask(1), 1);
        // Of rates 2 to 5: ring 0 by two and two; ring 1 by all.
        Check.fill(x, 1, 1, 1018);
        Check.due("ask() of 2 to 5", x.ask(1), 0);
        // Of rates 0 and 1 both cost the same: the first one.
        Check.fill(x, 1, 1, 1015);
        Check.due("ask() of 0, 1", x.ask(1), 0);
        Check.fill(x, 1, 1, 999);
        Check.due("ask() of none", x.ask(1), -1);
        // Of rates 0, 1, 2 (ring 2): ring 0 by two, ring 1 by one each.
        SpareRings y = Check.told("net nodes 8 rate 0;link 0 1 long 1 work 0;link 1 2 long 1 work 0;link 2 0 long 1 work 0;"
                + "link 3 4 long 2 work 0;link 4 5 long 2 work 0;link 5 3 long 2 work 0;link 5 6 long 3 work 0;"
                + "link 6 7 long 3 work 0;link 7 5 long 3 work 0;costs:if long=1 then if rate<2 then 1 else 2 end "
                + "else if long=2 then rate+1 else if rate<3 then 1 else 2 end end end;");
        Check.fill(y, 1, 1, 2003);
        Check.due("rates() of ring 2", y.rates(1), 7);
        Check.due("ask() of 0, 1, 2", y.ask(1), 1);
    }

    /** What each ring costs by each rate is asked by setting the rate; all else follows. */
    private static void byEachRate(String law) {
        SpareRings x = Check.told("net nodes 4 rate 3;link 0 1 long 1 work 0;link 0 2 long 2 work 0;link 0 3 long 3 work 0;"
                + "link 1 2 long 4 work 0;link 1 3 long 5 work 0;link 2 3 long 6 work 0;" + law);
        int rings = x.rings();
        int[][] costs = new int[rings][10];
        for (int rate = 0; rate < 10; rate++) {
            x.rate(rate);
            for (int r = 0; r < rings; r++) {
                costs[r][rate] = x.ring(r, 3);
            }
        }
        for (int r = 0; r < rings; r++) {
            for (int rate = 0; rate < 10; rate++) {
                int bits = 0;
                for (int other = 0; other < 10; other++) {
                    bits |= costs[r][other] == costs[r][rate] ? 1 << other : 0;
                }
                Check.fill(x, 0, 2, 1000 * r + costs[r][rate]);
                Check.due("rates() by: " + law, x.rates(0), bits);
                Check.due("ask() by: " + law, x.ask(0), toAsk(costs, bits));
            }
        }
    }

    private static int toAsk(int[][] costs, int bits) {
        int found = -1;
        int least = 11;
        for (int r = 0; r < costs.length; r++) {
            int[] times = new int[1000];
            int most = 0;
            for (int rate = 0; rate < 10; rate++) {
                if ((bits >> rate & 1) != 0) {
                    times[costs[r][rate]]++;
                    most = Math.max(most, times[costs[r][rate]]);
                }
            }
            if (most < least) {
                least = most;
                found = r;
            }
        }
        return found;
    }

    private static void byTheRateNow() {
        SpareRings x = Check.told(TWO + "may:rate<5 or long=6;");
        Check.fill(x, 2, 1, 18);
        Check.due("ring 0 at rate 0", x.rates(2), 0);
        x.rate(5);
        Check.due("ring 0 at rate 5 is the other one", x.rates(2), 0x3C);
        Check.fill(x, 2, 1, 1018);
        Check.due("there is no ring 1 at rate 5", x.rates(2), -3);
        SpareRings none = Check.told(TWO + "may:1=2;");
        Check.fill(none, 0, 0, 0);
        Check.due("ask() without rings", none.ask(0), -3);
    }
}
