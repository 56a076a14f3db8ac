/** Promise 1, and what calls answer ahead of any text. */
public final class NewObjectTest {
    public static void main(String[] args) {
        SpareRings x = new SpareRings();
        int[] counts = {1, 0, 0, 0, 0, 0, 0, 0, 0};
        for (int what = 0; what < counts.length; what++) {
            Check.due("count(" + what + ")", x.count(what), counts[what]);
        }
        Check.due("NONE", SpareRings.NONE, -1);
        Check.due("fault(0)", x.fault(0), 0);
        Check.due("fault(1)", x.fault(1), -1);
        Check.due("rings()", x.rings(), 0);
        Check.due("isCover()", x.isCover(), 1);
        Check.due("worst()", x.worst(), -1);
        Check.due("lists(0, 0)", x.lists(0, 0), -6);
        Check.due("numbers(0, 0, 1)", x.numbers(0, 0, 1), 0);
        Check.due("lists(0, 0)", x.lists(0, 0), 0);
        Check.due("rates(0)", x.rates(0), -3);
        Check.due("ask(0)", x.ask(0), -3);
        Check.due("chance(3, 1)", x.chance(3, 1), 1);
        Check.due("mean(0, 1)", x.mean(0, 1), 1);
        Check.due("image(0)", x.image(0), 0);
        Check.tell(x, "net nodes 2 rate 3;link 0 1 long 1 work 1;");
        Check.due("count(1)", x.count(1), 1);
        Check.due("restore(0)", x.restore(0), 0);
        Check.due("count(0) restored", x.count(0), 1);
        Check.due("count(1) restored", x.count(1), 0);
        Check.due("count(2) restored", x.count(2), 0);
        Check.due("count(8) restored", x.count(8), 0);
        Check.end();
    }
}
