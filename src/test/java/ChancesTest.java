/** Promises 40 and 41: chances by lots. */
public final class ChancesTest {
    private static final String TRIANGLE =
            "net nodes 3 rate 1;link 0 1 long 2 work 1;link 1 2 long 3 work 2;link 2 0 long 4 work 0;";

    public static void main(String[] args) {
        SpareRings x = Check.told(TRIANGLE);
        x.lay(0);
        // One lot: link 1 alone loses a unit.
        fraction(x, 0, 1, 1, 0, 1);
        fraction(x, 1, 9, 10, 1, 10);
        // Two: none, 49 times; one link, 15 times each; each two of them, twice: 3, 1, 2 units.
        fraction(x, 2, 79, 100, 27, 100);
        // Three: none 7^3 times; one link, 8^3 - 7^3 times each; each two of them, pair times: 3, 1, 2 units;
        // all of them, six times: 3 units.
        int pair = 9 * 9 * 9 - 2 * 8 * 8 * 8 + 7 * 7 * 7;
        fraction(x, 3, (343 + 2 * 169), 1000, 169 + pair * 6 + 6 * 3, 1000);
        x.fail(1);
        fraction(x, 0, 0, 1, 1, 1);
        // From now on: link 0 then 3 lost, link 2 then 2 lost, else 1.
        fraction(x, 1, 0, 1, 8 + 3 + 2, 10);
        x.lay(0);
        fraction(x, 0, 1, 1, 0, 1);
        fraction(x, 1, 8, 10, 5, 10);
        Check.due("nothing fails by asking", x.count(4), 2);
        Check.due("chance(-1, 0)", x.chance(-1, 0), -3);
        Check.due("chance(4, 0)", x.chance(4, 0), -3);
        Check.due("chance(4, 2)", x.chance(4, 2), -2);
        Check.due("chance(0, -1)", x.chance(0, -1), -2);
        Check.due("mean(-1, 0)", x.mean(-1, 0), -3);
        Check.due("mean(4, 0)", x.mean(4, 0), -3);
        Check.due("mean(4, 2)", x.mean(4, 2), -2);
        Check.due("mean(0, -1)", x.mean(0, -1), -2);
        SpareRings five = Check.told(RingsTest.five(""));
        fraction(five, 1, 0, 1, 1, 1);
        fraction(five, 2, 0, 1, 190, 100);
        fraction(five, 3, 0, 1, 10 + 9 * 10 * 3 * 2 + 720 * 3, 1000);
        Check.end();
    }

    private static int common(int a, int b) {
        return b == 0 ? a : common(b, a % b);
    }

    private static void fraction(SpareRings x, int n, int above, int below, int meanAbove, int meanBelow) {
        int c = common(above, below);
        Check.due("chance(" + n + ", 0)", x.chance(n, 0), above / c);
        Check.due("chance(" + n + ", 1)", x.chance(n, 1), below / c);
        int m = common(meanAbove, meanBelow);
        Check.due("mean(" + n + ", 0)", x.mean(n, 0), meanAbove / m);
        Check.due("mean(" + n + ", 1)", x.mean(n, 1), meanBelow / m);
    }
}
