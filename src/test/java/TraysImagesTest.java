/** Promises 42, 43 and 45 to 47: trays, images, counts. */
public final class TraysImagesTest {
    public static void main(String[] args) {
        numbers();
        writes();
        images();
        counts();
        Check.end();
    }

    private static void numbers() {
        SpareRings x = new SpareRings();
        Check.due("numbers(4, 0, 1)", x.numbers(4, 0, 1), -2);
        Check.due("numbers(-1, 0, 1)", x.numbers(-1, 0, 1), -2);
        Check.due("numbers(0, 4, 1)", x.numbers(0, 4, 1), -2);
        Check.due("numbers(0, -1, 41)", x.numbers(0, -1, 41), -2);
        Check.due("numbers(0, 0, 41)", x.numbers(0, 0, 41), -3);
        Check.due("the tray is missing still", x.write(0, 0, 1), -6);
        Check.due("numbers(3, 3, 40)", x.numbers(3, 3, 40), 0);
        Check.due("write(3, 39, -5)", x.write(3, 39, -5), -5);
        Check.due("numbers(3, 0, -1)", x.numbers(3, 0, -1), -3);
        Check.due("the tray stays", x.write(3, 39, 1L << 40), 1L << 40);
        Check.due("numbers(3, 1, 40)", x.numbers(3, 1, 40), 0);
        Check.due("all are 0 again", x.judge(3, 0), 0);
        Check.tell(x, RingsTest.SQUARE);
        Check.fill(x, 3, 1, 100, 101);
        Check.due("judge(3, 0)", x.judge(3, 0), -1);
        Check.due("numbers(3, 1, 2)", x.numbers(3, 1, 2), 0);
        Check.due("its numbers are 0", x.judge(3, 0), 0);
        Check.due("numbers(3, 1, 0)", x.numbers(3, 1, 0), 0);
        Check.due("a tray of none isn't missing", x.judge(3, 0), -1);
    }

    private static void writes() {
        SpareRings x = new SpareRings();
        Check.due("write(4, 0, 1)", x.write(4, 0, 1), -2);
        Check.due("write(-1, 0, 1)", x.write(-1, 0, 1), -2);
        Check.due("write(0, -1, 1)", x.write(0, -1, 1), -6);
        long[] told = {127, 128, 255, 256, -129, 0x12345678ABCDEFL, Long.MIN_VALUE, Long.MAX_VALUE};
        for (int sort = 0; sort < 4; sort++) {
            x.numbers(sort, sort, 2);
            for (long v : told) {
                long cut = sort == 0 ? (byte) v : sort == 1 ? (short) v : sort == 2 ? (int) v : v;
                Check.due("write(" + sort + ", 1, " + v + ")", x.write(sort, 1, v), cut);
            }
            Check.due("write(" + sort + ", 2, 1)", x.write(sort, 2, 1), -7);
            Check.due("write(" + sort + ", -1, 1)", x.write(sort, -1, 1), -7);
        }
        x.numbers(2, 0, 0);
        Check.due("write into none", x.write(2, 0, 1), -7);
    }

    private static void images() {
        SpareRings x = Check.told(RingsTest.SQUARE + "may:links=4 or rate<3;");
        Check.due("image(2)", x.image(2), -2);
        Check.due("image(-1)", x.image(-1), -2);
        Check.due("restore(2)", x.restore(2), -2);
        Check.due("restore(-1)", x.restore(-1), -2);
        Check.due("restore(0)", x.restore(0), -5);
        x.lay(0);
        x.lay(2);
        x.fail(4);
        Check.due("image(1)", x.image(1), 0);
        Check.due("an image takes nothing", x.count(6), 3);
        Check.due("restore(0)", x.restore(0), -5);
        x.take(0);
        x.fail(0);
        x.rate(5);
        x.lay(0);
        Check.due("image(0)", x.image(0), 0);
        Check.fill(x, 2, 2, 7);
        Check.tell(x, RingsTest.LOOSE);
        Check.feed(x, new byte[20]);
        Check.tell(x, "net nodes 9");
        Check.feed(x, new byte[20]);
        Check.due("restore(1)", x.restore(1), 0);
        Check.due("links", x.count(1), 5);
        Check.due("lines", x.count(8), 7);
        Check.due("rate", x.count(2), 1);
        Check.due("rings", x.rings(), 3);
        Check.due("copies of ring 0", x.ring(0, 5), 1);
        Check.due("copies of ring 2", x.ring(2, 5), 1);
        Check.due("failed", x.count(4), 16);
        Check.due("where a unit runs", x.runs(4, 1, 2), 12);
        Check.due("nothing can be undone", x.count(6), 0);
        Check.due("undo(1)", x.undo(1), -3);
        Check.due("the tape stays", x.count(7), 20);
        Check.due("the fault stays", x.fault(0), 1);
        Check.due("trays stay", x.write(2, 0, 9), 9);
        x.mend(4);
        Check.due("restore(0)", x.restore(0), 0);
        Check.due("rate", x.count(2), 5);
        Check.due("rings", x.rings(), 1);
        Check.due("copies", x.count(3), 1);
        Check.due("failed", x.count(4), 0);
        Check.due("restore(1) again", x.restore(1), 0);
        Check.due("failed", x.count(4), 16);
        Check.due("image(1) anew", x.image(1), 0);
        x.lay(1);
        Check.due("undo(1) behind a restore", x.undo(1), 0);
    }

    private static void counts() {
        SpareRings x = Check.told(RingsTest.SQUARE);
        x.lay(0);
        x.lay(0);
        x.lay(2);
        x.fail(0);
        x.fail(3);
        x.rate(6);
        x.feed(0, 0, 0, 0, 0);
        int[] all = {4, 5, 6, 3, 9, 5, 6, 20, 6};
        for (int what = 0; what < all.length; what++) {
            Check.due("count(" + what + ")", x.count(what), all[what]);
        }
        Check.due("count(9)", x.count(9), -1);
        Check.due("count(-1)", x.count(-1), -1);
    }
}
