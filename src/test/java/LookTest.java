/** Promises 11, 12 and 13. */
public final class LookTest {
    public static void main(String[] args) {
        Checks checks = new Checks();
        noneSuch(checks);
        full(checks);
        binds(checks);
        cut(checks);
        opened(checks);
        least(checks);
        over(checks);
        linked(checks);
        checks.finish();
    }

    private static void noneSuch(Checks checks) {
        RingWeaves x = Checks.laid(Checks.CHAIN, 3, 1);
        x.take(2);
        int[] wrong = {-1, 3, 300, Integer.MAX_VALUE, Integer.MIN_VALUE};
        for (int i = 0; i < wrong.length; i++) {
            checks.dueLookThrows(x, wrong[i], 0);
            checks.dueLookThrows(x, wrong[i], 6);
        }
        int[] wrongWhat = {-1, 7, Integer.MAX_VALUE, Integer.MIN_VALUE};
        for (int i = 0; i < wrongWhat.length; i++) {
            checks.dueLookThrows(x, 0, wrongWhat[i]);
            checks.dueLookThrows(x, 2, wrongWhat[i]);
        }
        checks.dueLook(x, 0, 0, 1);
        checks.dueLook(x, 2, 0, 0);
        for (int what = 1; what <= 6; what++) {
            checks.dueLookThrows(x, 2, what);
        }
        checks.dueLook(x, 0, 1, 1);
    }

    private static void full(Checks checks) {
        RingWeaves x = Checks.laid("ring a;ring b;link a b 0 0 over;link b a 1 0 over;", 3, 1);
        int[] want = {0, 1, 1, 1, 1, 0};
        for (int ring = 0; ring < 6; ring++) {
            checks.dueLook(x, ring, 2, want[ring]);
        }
        checks.due("count(3)", x.count(3), 4);
        x.link(1, 4);
        checks.dueLook(x, 1, 2, 1);
        x.unlink(1, 2);
        checks.dueLook(x, 1, 2, 0);
        checks.dueLook(x, 2, 2, 0);
        x.link(2, 1);
        checks.dueLook(x, 1, 2, 0);
        x.add();
        checks.dueLook(x, 6, 2, 0);
        x.take(3);
        checks.dueLook(x, 4, 2, 0);
        checks.due("count(3)", x.count(3), 0);
        RingWeaves unlinked = Checks.laid("ring a;", 2, 2);
        checks.dueLook(unlinked, 3, 2, 1);
        unlinked.take(3);
        checks.due("count(3) with one taken", unlinked.count(3), 3);
    }

    private static void binds(Checks checks) {
        int[] room = {0, 1000, 2000, 2155, 2414, 2701, 3000, 3000, 3304, 3704, 4104, 4504};
        RingWeaves x = Checks.loose(room.length);
        for (int links = 0; links < room.length; links++) {
            if (links > 0) {
                x.link(0, links);
            }
            // Wire 999 makes both sides of the edge sharp: d * 1000 below w * room.
            int edge = (999 * room[links] + 999) / 1000;
            if (links > 0) {
                x.sizes(999, edge - 1, 8);
                checks.dueLook(x, 0, 3, 1);
            }
            x.sizes(999, Math.max(edge, 1), 8);
            checks.dueLook(x, 0, 3, 0);
        }
        x.sizes(999, 1, 8);
        RingWeaves lone = Checks.loose(1);
        lone.sizes(999, 1, 8);
        checks.dueLook(lone, 0, 3, 0);
        RingWeaves even = Checks.loose(2, 0, 1);
        even.sizes(100, 100, 8);
        checks.dueLook(even, 0, 3, 0);
        even.sizes(100, 99, 8);
        checks.dueLook(even, 0, 3, 1);
        checks.due("count(4)", even.count(4), 2);
    }

    private static void cut(Checks checks) {
        // Two triangles that share ring 2, a tail 4 - 5, and a lone ring 6.
        RingWeaves x = Checks.loose(7, 0, 1, 1, 2, 0, 2, 2, 3, 3, 4, 2, 4, 4, 5);
        int[] want = {0, 0, 1, 0, 1, 0, 0};
        for (int ring = 0; ring < 7; ring++) {
            checks.dueLook(x, ring, 4, want[ring]);
        }
        checks.due("count(5)", x.count(5), 2);
        x.link(5, 3);
        checks.dueLook(x, 4, 4, 0);
        // The ring of least number can be one too.
        RingWeaves star = Checks.loose(3, 0, 1, 2, 0);
        checks.dueLook(star, 0, 4, 1);
        star.link(1, 2);
        checks.dueLook(star, 0, 4, 0);
    }

    private static void opened(Checks checks) {
        RingWeaves x = Checks.laid(Checks.CHAIN, 4, 1);
        int[] want = {0, 1, 0, 1};
        x.unlink(0, 1);
        x.link(0, 1);
        x.take(3);
        for (int ring = 0; ring < 3; ring++) {
            checks.dueLook(x, ring, 5, want[ring]);
        }
        // A triangle elsewhere: none is told.
        x.add();
        x.add();
        x.add();
        x.link(4, 5);
        x.link(5, 6);
        checks.dueLook(x, 1, 5, 1);
        checks.dueLook(x, 5, 5, 1);
        x.link(6, 4);
        for (int ring = 0; ring < 7; ring++) {
            if (ring != 3) {
                checks.dueLook(x, ring, 5, 0);
            }
        }
    }

    private static void least(Checks checks) {
        RingWeaves x = Checks.loose(6, 5, 1, 3, 5, 4, 2);
        int[] want = {0, 1, 2, 1, 2, 1};
        for (int ring = 0; ring < 6; ring++) {
            checks.dueLook(x, ring, 6, want[ring]);
        }
        checks.due("count(2)", x.count(2), 3);
        x.take(1);
        checks.dueLook(x, 5, 6, 3);
        checks.due("count(2)", x.count(2), 3);
    }

    private static void over(Checks checks) {
        RingWeaves x = Checks.loose(4, 0, 1);
        checks.due("over(0, 1)", x.over(0, 1), 1);
        checks.due("over(1, 0)", x.over(1, 0), -1);
        checks.due("over(0, 2)", x.over(0, 2), 0);
        checks.due("over(0, 0)", x.over(0, 0), 0);
        x.take(3);
        checks.due("over(0, 3)", x.over(0, 3), -2);
        checks.due("over(3, 0)", x.over(3, 0), -2);
        checks.due("over(3, 3)", x.over(3, 3), -2);
        checks.due("over(4, 0)", x.over(4, 0), -2);
        checks.due("over(0, -1)", x.over(0, -1), -2);
        checks.due("over(MAX, MIN)", x.over(Integer.MAX_VALUE, Integer.MIN_VALUE), -2);
    }

    private static void linked(Checks checks) {
        RingWeaves x = new RingWeaves();
        for (int i = 0; i < 300; i++) {
            x.add();
        }
        int[] others = {299, 64, 63, 0, 128, 127, 256, 255};
        for (int i = 0; i < others.length; i++) {
            x.link(others[i], 100);
        }
        checks.dueLinked(x, 100, 0, 63, 64, 127, 128, 255, 256, 299);
        checks.dueLinked(x, 299, 100);
        checks.dueLinked(x, 1);
        checks.due("linked(100, -1)", x.linked(100, -1), -1);
        checks.due("linked(100, MAX)", x.linked(100, Integer.MAX_VALUE), -1);
        checks.due("linked(100, MIN)", x.linked(100, Integer.MIN_VALUE), -1);
        checks.due("linked(300, 0)", x.linked(300, 0), -1);
        checks.due("linked(-1, 0)", x.linked(-1, 0), -1);
        x.take(64);
        checks.dueLinked(x, 100, 0, 63, 127, 128, 255, 256, 299);
        checks.due("linked(64, 0)", x.linked(64, 0), -1);
    }
}
