/** Promise 1. */
public final class NewObjectTest {
    public static void main(String[] args) {
        Checks checks = new Checks();
        RingWeaves x = new RingWeaves();
        for (int what = 0; what <= 12; what++) {
            checks.due("count(" + what + ")", x.count(what), 0);
        }
        checks.due("lay(1, 1)", x.lay(1, 1), -1);
        checks.due("at(0, 0, 0)", x.at(0, 0, 0), -1);
        checks.due("take(0)", x.take(0), -1);
        checks.due("link(0, 1)", x.link(0, 1), false);
        checks.due("unlink(0, 1)", x.unlink(0, 1), false);
        checks.due("mend()", x.mend(), 0);
        checks.dueLookThrows(x, 0, 0);
        checks.due("over(0, 0)", x.over(0, 0), -2);
        checks.due("linked(0, 0)", x.linked(0, 0), -1);
        checks.due("fewest()", x.fewest(), 0);
        checks.due("order(0)", x.order(0), -1);
        firstSizes(checks);
        checks.due("NONE", RingWeaves.NONE, -1);
        checks.finish();
    }

    /** Wire 100, within 400, g 8: told by the wire, the weight and where rings bind. */
    private static void firstSizes(Checks checks) {
        RingWeaves x = Checks.loose(1);
        checks.due("count(6)", x.count(6), 500 * 355 / 113);
        checks.due("count(7)", x.count(7), 1570 * 8 / 100);
        // Ten links bind below 4104 thousandths of the wire, nine below 3704.
        RingWeaves star = Checks.loose(11);
        for (int i = 1; i <= 9; i++) {
            star.link(0, i);
        }
        checks.dueLook(star, 0, 3, 0);
        star.link(10, 0);
        checks.dueLook(star, 0, 3, 1);
    }
}
