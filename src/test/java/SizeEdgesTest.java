/** Promises 16 and 17 and the document's section 4 (SIZES): each sentence that names a boundary, one function each. */
public final class SizeEdgesTest {
    private static final Checks CHECKS = new Checks();

    public static void main(String[] args) {
        sizesFromTo();
        refusedSizesChangeNothing();
        bindsWithoutLinks();
        bindsBelow();
        bindsEachMore();
        bindsMostLinks();
        bindsByLinksThatAreThere();
        wireOfEachIsCut();
        wireOfRingsThere();
        weightIsCut();
        mostWireAndWeight();
        heftAtFirst();
        countOfNone();
        countRingsAndLinks();
        countTheWeaveInHand();
        countAnotherWhat();
        callsUpTo512();
        CHECKS.finish();
    }

    private static void sizesFromTo() {
        CHECKS.sentence("wire w (1 to 999 hundredths), within .. (1 to 9999 hundredths) .. (g 1 to 99");
        RingWeaves x = new RingWeaves();
        int[] wrong = {0, -1, Integer.MIN_VALUE, Integer.MAX_VALUE};
        for (int number : wrong) {
            CHECKS.due("sizes(" + number + ", 1, 1)", x.sizes(number, 1, 1), false);
            CHECKS.due("sizes(1, " + number + ", 1)", x.sizes(1, number, 1), false);
            CHECKS.due("sizes(1, 1, " + number + ")", x.sizes(1, 1, number), false);
        }
        CHECKS.due("sizes(1, 1, 1)", x.sizes(1, 1, 1), true);
        CHECKS.due("sizes(999, 1, 1)", x.sizes(999, 1, 1), true);
        CHECKS.due("sizes(1000, 1, 1)", x.sizes(1000, 1, 1), false);
        CHECKS.due("sizes(1, 9999, 1)", x.sizes(1, 9999, 1), true);
        CHECKS.due("sizes(1, 10000, 1)", x.sizes(1, 10000, 1), false);
        CHECKS.due("sizes(1, 1, 99)", x.sizes(1, 1, 99), true);
        CHECKS.due("sizes(1, 1, 100)", x.sizes(1, 1, 100), false);
        CHECKS.due("sizes(999, 9999, 99)", x.sizes(999, 9999, 99), true);
        // The wire may be thicker than the width within.
        CHECKS.due("sizes(999, 1, 99)", x.sizes(999, 1, 99), true);
    }

    private static void refusedSizesChangeNothing() {
        CHECKS.sentence("true; false: other numbers (a refused call)");
        int[][] refused = {{1000, 500, 9}, {0, 500, 9}, {300, 10000, 9}, {300, 0, 9}, {300, 500, 100}, {300, 500, 0}};
        for (int[] sizes : refused) {
            RingWeaves x = Checks.loose(2, 0, 1);
            x.sizes(200, 199, 7);
            CHECKS.due("sizes", x.sizes(sizes[0], sizes[1], sizes[2]), false);
            CHECKS.dueCount(x, 4, 2);
            CHECKS.dueCount(x, 6, 2 * 1253);
            CHECKS.dueCount(x, 7, 701);
        }
    }

    private static void bindsWithoutLinks() {
        CHECKS.sentence("BINDS .. for n of 0 none");
        RingWeaves x = Checks.loose(1);
        x.sizes(999, 1, 1);
        CHECKS.dueLook(x, 0, 3, 0);
        CHECKS.dueCount(x, 4, 0);
    }

    private static void bindsBelow() {
        CHECKS.sentence("BINDS if 1000 * d is below w times: .. 1: 1000, 2: 2000, 3: 2155, 4: 2414 .. 8: 3304");
        // Where 1000 * d can be just w times that, it is not below.
        int[] wire = {0, 100, 100, 200, 500, 999, 100, 100, 125};
        int[] leastFree = {0, 100, 200, 431, 1207, 2699, 300, 300, 413};
        RingWeaves x = Checks.loose(9);
        for (int links = 1; links <= 8; links++) {
            x.link(links, 0);
            x.sizes(wire[links], leastFree[links], 1);
            CHECKS.dueLook(x, 0, 3, 0);
            x.sizes(wire[links], leastFree[links] - 1, 1);
            CHECKS.dueLook(x, 0, 3, 1);
        }
        // The wire told from either side: one thicker binds.
        x.sizes(124, 413, 1);
        CHECKS.dueLook(x, 0, 3, 0);
        x.sizes(126, 413, 1);
        CHECKS.dueLook(x, 0, 3, 1);
        x.sizes(1, 1, 1);
        CHECKS.dueLook(x, 1, 3, 0);
        x.sizes(2, 1, 1);
        CHECKS.dueLook(x, 1, 3, 1);
    }

    private static void bindsEachMore() {
        CHECKS.sentence("each more: 400 more");
        RingWeaves x = Checks.loose(22);
        int times = 3304;
        for (int links = 1; links <= 21; links++) {
            x.link(0, links);
            if (links > 8) {
                times += 400;
                // 125 * (3304 + 400 * k) is a whole number of thousands: just so much room is enough.
                x.sizes(125, times / 8, 1);
                CHECKS.dueLook(x, 0, 3, 0);
                x.sizes(125, times / 8 - 1, 1);
                CHECKS.dueLook(x, 0, 3, 1);
            }
        }
    }

    private static void bindsMostLinks() {
        CHECKS.sentence("each more: 400 more (299 of them)");
        RingWeaves x = Checks.laid("ring a;ring b;ring c;ring d;", 5, 12);
        for (int i = 0; i < 60; i++) {
            x.add();
        }
        for (int ring = 0; ring < 299; ring++) {
            x.link(299, ring);
        }
        CHECKS.dueLook(x, 299, 1, 299);
        x.sizes(83, 9999, 1);
        CHECKS.dueLook(x, 299, 3, 0);
        x.sizes(84, 9999, 1);
        CHECKS.dueLook(x, 299, 3, 1);
        CHECKS.dueCount(x, 4, 1);
        x.sizes(999, 9999, 1);
        CHECKS.dueLook(x, 299, 3, 1);
        x.sizes(999, 998, 1);
        CHECKS.dueCount(x, 4, 300);
        CHECKS.due("take(299)", x.take(299), 299);
        CHECKS.dueCount(x, 4, 0);
    }

    private static void bindsByLinksThatAreThere() {
        CHECKS.sentence("A RING with n LINKS BINDS (LINKS are those with RINGS that are there)");
        RingWeaves x = Checks.laid(Checks.CHAIN, 3, 1);
        x.sizes(100, 150, 8);
        CHECKS.dueLooks(x, 3, 0, 1, 0);
        CHECKS.dueCount(x, 4, 1);
        x.take(0);
        CHECKS.dueLook(x, 1, 3, 0);
        CHECKS.dueCount(x, 4, 0);
        x.mend();
        CHECKS.dueCount(x, 4, 1);
        x.sizes(100, 99, 8);
        CHECKS.dueCount(x, 4, 3);
    }

    private static void wireOfEachIsCut() {
        CHECKS.sentence("WIRE of all RINGS there: (d + w) * 355 / 113 each, cut, in hundredths, summed");
        RingWeaves x = Checks.loose(100);
        x.sizes(1, 1, 1);
        CHECKS.dueCount(x, 6, 600);
        x.sizes(13, 100, 1);
        CHECKS.dueCount(x, 6, 35500);
        x.sizes(12, 100, 1);
        CHECKS.dueCount(x, 6, 35100);
        RingWeaves one = Checks.loose(1);
        CHECKS.dueCount(one, 6, 1570);
    }

    private static void wireOfRingsThere() {
        CHECKS.sentence("WIRE of all RINGS there");
        RingWeaves x = Checks.laid(Checks.CHAIN, 3, 1);
        x.add();
        CHECKS.dueCount(x, 6, 4 * 1570);
        x.take(3);
        CHECKS.dueCount(x, 6, 3 * 1570);
        x.take(0);
        CHECKS.dueCount(x, 6, 2 * 1570);
        x.mend();
        CHECKS.dueCount(x, 6, 3 * 1570);
        x.take(0);
        x.take(1);
        x.take(2);
        CHECKS.dueCount(x, 6, 0);
        CHECKS.dueCount(x, 7, 0);
    }

    private static void weightIsCut() {
        CHECKS.sentence("WEIGHT: WIRE * w * w * g / 1000000, cut");
        RingWeaves x = Checks.loose(1);
        // 304 * 100 * 32 is 972,800, just below one.
        x.sizes(10, 87, 32);
        CHECKS.dueCount(x, 6, 304);
        CHECKS.dueCount(x, 7, 0);
        x.sizes(10, 87, 33);
        CHECKS.dueCount(x, 7, 1);
        // The sum is cut, not each: three rings weigh 2,918,400.
        RingWeaves three = Checks.loose(3);
        three.sizes(10, 87, 32);
        CHECKS.dueCount(three, 7, 2);
        x.sizes(100, 1, 1);
        CHECKS.dueCount(x, 6, 317);
        CHECKS.dueCount(x, 7, 3);
    }

    private static void mostWireAndWeight() {
        CHECKS.sentence("WEIGHT (of 300 RINGS of the greatest SIZES)");
        RingWeaves x = Checks.loose(300);
        x.sizes(999, 9999, 99);
        CHECKS.dueCount(x, 6, 300 * 34551);
        CHECKS.dueCount(x, 7, 1024113396);
        x.sizes(999, 1, 99);
        CHECKS.dueCount(x, 6, 300 * 3141);
        CHECKS.dueCount(x, 7, 93101217);
    }

    private static void heftAtFirst() {
        CHECKS.sentence("g 1 to 99, 8 at first");
        RingWeaves x = Checks.loose(5);
        CHECKS.dueCount(x, 7, 5 * 1570 * 8 / 100);
        x.sizes(100, 400, 8);
        CHECKS.dueCount(x, 7, 628);
        x.sizes(100, 400, 9);
        CHECKS.dueCount(x, 7, 706);
    }

    private static void countOfNone() {
        CHECKS.sentence("count of a new object: there is none of anything");
        for (int what = 0; what <= 12; what++) {
            CHECKS.dueCount(new RingWeaves(), what, 0);
        }
    }

    private static void countRingsAndLinks() {
        CHECKS.sentence("What 0: RINGS there, 1: LINKS .. 8: RINGS numbered .. 12: WORN ones");
        RingWeaves x = Checks.laid(Checks.MESH, 2, 2);
        x.add();
        x.link(4, 0);
        x.take(3);
        x.take(4);
        CHECKS.dueCount(x, 0, 3);
        CHECKS.dueCount(x, 1, 2);
        CHECKS.dueCount(x, 8, 5);
        CHECKS.dueCount(x, 12, 1);
        RingWeaves last = Checks.loose(300, 299, 298);
        CHECKS.dueCount(last, 0, 300);
        CHECKS.dueCount(last, 1, 1);
        last.take(299);
        CHECKS.dueCount(last, 0, 299);
        CHECKS.dueCount(last, 1, 0);
        CHECKS.dueCount(last, 8, 300);
    }

    private static void countTheWeaveInHand() {
        CHECKS.sentence("9: RINGS of the WEAVE in hand, 10: its links, 11: signs on the TAPE");
        RingWeaves x = Checks.laid("ring a;ring b;link a b 0 0 over;", 2, 2);
        CHECKS.dueCount(x, 9, 2);
        CHECKS.dueCount(x, 10, 1);
        x.take(0);
        x.unlink(2, 3);
        CHECKS.dueCount(x, 9, 2);
        CHECKS.dueCount(x, 10, 1);
        Checks.feed(x, "ring c;");
        CHECKS.dueCount(x, 11, 7);
        CHECKS.dueCount(x, 9, 2);
        x.weave();
        CHECKS.dueCount(x, 9, 1);
        CHECKS.dueCount(x, 10, 0);
        CHECKS.dueCount(x, 11, 0);
        CHECKS.dueCount(x, 0, 7);
    }

    private static void countAnotherWhat() {
        CHECKS.sentence("NONE for another what.");
        RingWeaves x = Checks.laid(Checks.MESH, 2, 2);
        int[] wrong = {-1, -2, 13, 14, 100, Integer.MAX_VALUE, Integer.MIN_VALUE};
        for (int what : wrong) {
            CHECKS.dueCount(x, what, -1);
            CHECKS.dueCount(new RingWeaves(), what, -1);
        }
    }

    private static void callsUpTo512() {
        CHECKS.sentence("An object is used for at most 512 calls after it has been made");
        RingWeaves x = new RingWeaves();
        x.feed(0x72696e6720613b6cL, 0x696e6b2061206120L, 0x312030206f766572L);
        x.feed(0x3b00000000000000L, 0, 0);
        x.weave();
        for (int call = 4; call < 508; call += 4) {
            CHECKS.due("lay(12, 12)", x.lay(12, 12), 144);
            CHECKS.due("take(143)", x.take(143), 1);
            CHECKS.due("mend()", x.mend(), 1);
            CHECKS.due("fewest()", x.fewest(), 72);
        }
        CHECKS.due("call 508: take(143)", x.take(143), 1);
        CHECKS.due("call 509: fewest()", x.fewest(), 71);
        CHECKS.due("call 510: mend()", x.mend(), 1);
        CHECKS.due("call 511: order(71)", x.order(71), 142);
        CHECKS.due("call 512: count(5)", x.count(5), 120);
    }
}
