/** Promises 16 and 17. */
public final class SizesAndCountTest {
    public static void main(String[] args) {
        Checks checks = new Checks();
        edges(checks);
        falseChangesNothing(checks);
        wireAndWeight(checks);
        counts(checks);
        otherWhat(checks);
        checks.finish();
    }

    private static void edges(Checks checks) {
        RingWeaves x = new RingWeaves();
        checks.due("sizes(1, 1, 1)", x.sizes(1, 1, 1), true);
        checks.due("sizes(999, 9999, 99)", x.sizes(999, 9999, 99), true);
        int[][] wrong = {{0, 1, 1}, {1000, 1, 1}, {1, 0, 1}, {1, 10000, 1}, {1, 1, 0}, {1, 1, 100},
            {-1, 1, 1}, {1, -1, 1}, {1, 1, -1}, {Integer.MAX_VALUE, 1, 1}, {1, Integer.MIN_VALUE, 1},
            {1, 1, Integer.MAX_VALUE}};
        for (int[] w : wrong) {
            checks.due("sizes(" + w[0] + ", " + w[1] + ", " + w[2] + ")", x.sizes(w[0], w[1], w[2]), false);
        }
    }

    private static void falseChangesNothing(Checks checks) {
        RingWeaves x = Checks.loose(1);
        x.sizes(200, 700, 3);
        int wire = x.count(6);
        int weight = x.count(7);
        x.sizes(300, 800, 0);
        x.sizes(300, 0, 4);
        x.sizes(0, 800, 4);
        checks.due("count(6)", x.count(6), wire);
        checks.due("count(7)", x.count(7), weight);
    }

    private static void wireAndWeight(Checks checks) {
        RingWeaves x = Checks.loose(3);
        x.sizes(100, 190, 8);
        checks.due("count(6)", x.count(6), 2733);
        checks.due("count(7)", x.count(7), 218);
        x.sizes(1, 1, 1);
        checks.due("count(6), each cut", x.count(6), 3 * 6);
        checks.due("count(7)", x.count(7), 0);
        x.take(0);
        checks.due("count(6) with one taken", x.count(6), 2 * 6);
        RingWeaves most = Checks.loose(300);
        most.sizes(999, 9999, 99);
        long wire = 300L * (10998 * 355 / 113);
        checks.due("count(6) at most", most.count(6), wire);
        checks.due("count(7) at most", most.count(7), wire * 999 * 999 * 99 / 1000000);
        most.sizes(999, 9999, 1);
        checks.due("count(7), g 1", most.count(7), wire * 999 * 999 / 1000000);
    }

    private static void counts(Checks checks) {
        RingWeaves x = Checks.laid(Checks.MESH, 4, 3);
        x.add();
        x.add();
        x.link(12, 0);
        x.link(12, 13);
        x.take(6);
        x.sizes(100, 210, 8);
        Checks.feed(x, "ring");
        int[] want = {13, 17 - 4 + 2, 1, 0, 5, 2, 13 * (310 * 355 / 113), 13 * 973 * 8 / 100, 14, 1, 2, 4, 1};
        for (int what = 0; what < want.length; what++) {
            checks.due("count(" + what + ")", x.count(what), want[what]);
        }
        x.take(12);
        checks.due("count(0)", x.count(0), 12);
        checks.due("count(2)", x.count(2), 2);
        checks.due("count(5)", x.count(5), 0);
        checks.due("count(12): those put in are not worn", x.count(12), 1);
        x.take(13);
        x.mend();
        checks.due("count(3)", x.count(3), 2);
        checks.due("count(1)", x.count(1), 17);
        checks.due("count(4)", x.count(4), 8);
    }

    private static void otherWhat(Checks checks) {
        RingWeaves x = Checks.laid(Checks.MESH, 2, 2);
        int[] wrong = {-1, 13, 14, Integer.MAX_VALUE, Integer.MIN_VALUE};
        for (int what : wrong) {
            checks.due("count(" + what + ")", x.count(what), -1);
        }
    }
}
