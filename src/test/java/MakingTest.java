/** Promises 14 and 15. */
public final class MakingTest {
    public static void main(String[] args) {
        Checks checks = new Checks();
        chains(checks);
        sides(checks);
        unparted(checks);
        order(checks);
        wrongPlaces(checks);
        checks.finish();
    }

    private static void chains(Checks checks) {
        checks.dueOrder(new RingWeaves());
        checks.dueOrder(Checks.loose(3));
        // One pair: the ring of the first side is in it and not reached, so it is the one opened.
        checks.dueOrder(Checks.loose(2, 1, 0), 0);
        checks.dueOrder(Checks.laid(Checks.CHAIN, 3, 1), 1);
        checks.dueOrder(Checks.laid(Checks.CHAIN, 4, 1), 0, 2);
        checks.dueOrder(Checks.laid(Checks.CHAIN, 5, 1), 1, 3);
        checks.dueOrder(Checks.laid(Checks.CHAIN, 12, 1), 0, 2, 4, 6, 8, 10);
        // The greedy pairs 0-1, 2-3 leave none; 1 has to change its pair.
        checks.dueOrder(Checks.loose(4, 0, 1, 0, 3, 2, 1), 0, 2);
    }

    private static void sides(Checks checks) {
        // A star whose middle is not the least, and one whose middle is.
        checks.dueOrder(Checks.loose(5, 4, 0, 4, 1, 4, 2, 4, 3), 4);
        checks.dueOrder(Checks.loose(5, 0, 1, 0, 2, 0, 3, 0, 4), 0);
        RingWeaves grid = Checks.laid(Checks.MESH, 3, 3);
        checks.dueOrder(grid, 1, 3, 5, 7);
        RingWeaves all = Checks.laid(Checks.MESH, 12, 12);
        checks.due("fewest()", all.fewest(), 72);
        all.take(0);
        checks.due("fewest() without a corner", all.fewest(), 71);
        RingWeaves loose = Checks.laid("ring a;ring b;link a b 0 0 over;", 12, 10);
        checks.due("fewest()", loose.fewest(), 120);
        checks.due("order(119)", loose.order(119), 238);
    }

    private static void unparted(Checks checks) {
        RingWeaves x = Checks.loose(8, 0, 1, 2, 3, 3, 4, 4, 5, 5, 6);
        checks.dueOrder(x, 0, 3, 5);
        x.link(6, 2);
        checks.due("fewest() with a round of five", x.fewest(), -1);
        checks.due("order(0)", x.order(0), -1);
        checks.dueLook(x, 0, 5, 0);
        x.unlink(2, 6);
        x.link(7, 6);
        x.link(7, 2);
        checks.dueOrder(x, 0, 2, 4, 6);
        x.link(0, 7);
        checks.due("fewest()", x.fewest(), 4);
        RingWeaves mesh = Checks.laid("ring a;link a a 1 0 over;link a a 0 1 over;link a a 1 1 over;", 2, 2);
        checks.due("fewest() of triangles", mesh.fewest(), -1);
        mesh.take(1);
        checks.due("fewest() of one left", mesh.fewest(), -1);
        mesh.take(2);
        checks.dueOrder(mesh, 0);
    }

    private static void order(Checks checks) {
        // Opened are 0, 1 and 5, in three pieces: none at hand each time, so the least.
        checks.dueOrder(Checks.loose(8, 0, 7, 1, 6, 1, 2, 5, 3, 5, 4), 0, 1, 3 + 2);
        // Stars at 0, 1, 2; the way from 0 leads by 8 to 2, and from there by 9 to 1.
        checks.dueOrder(Checks.loose(12, 0, 3, 0, 4, 1, 5, 1, 6, 2, 7, 2, 10, 0, 8, 2, 8, 2, 9, 1, 9), 0, 2, 1);
        // Two opened ones linked with each other: each is at hand for the other.
        checks.dueOrder(Checks.loose(8, 0, 3, 0, 4, 7, 5, 7, 6, 0, 7, 1, 2), 0, 7, 1);
    }

    private static void wrongPlaces(Checks checks) {
        RingWeaves x = Checks.laid(Checks.CHAIN, 4, 1);
        checks.due("order(-1)", x.order(-1), -1);
        checks.due("order(MIN)", x.order(Integer.MIN_VALUE), -1);
        checks.due("order(MAX)", x.order(Integer.MAX_VALUE), -1);
        checks.due("order(300)", x.order(300), -1);
    }
}
