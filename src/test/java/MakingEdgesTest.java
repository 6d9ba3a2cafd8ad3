/** Promises 11 to 15 and the document's section 3 (PIECES, MAKING, ORDER): each sentence that names a boundary. */
public final class MakingEdgesTest {
    private static final String LINE = "ring a;ring b;link a b 0 0 over;link b a 1 0 over;";
    private static final int[] NO_NUMBERS = {-1, -2, 300, 301, 320, 4096, Integer.MAX_VALUE, Integer.MIN_VALUE};

    private static final Checks CHECKS = new Checks();

    public static void main(String[] args) {
        lookNoneSuch();
        lookOfTaken();
        lookOtherWhat();
        lookOfTheLastRing();
        overNoneSuch();
        overOrUnder();
        linkedByNumbers();
        linkedNoneSuch();
        piecesOfNone();
        piecesHangTogether();
        cutRingsOfFew();
        cutRings();
        nothingToOpen();
        oneOfEachLink();
        partedInTwoSides();
        onePieceThatCantBeParted();
        longestLine();
        densestSheet();
        everySmallMail();
        pairsThatChange();
        firstSideHasTheLeast();
        orderLeastFirst();
        orderByWhatIsAtHand();
        orderNoneAtHand();
        orderNone();
        askedAgainAfterEachChange();
        askedAgainAfterLoneRings();
        CHECKS.finish();
    }

    private static void lookNoneSuch() {
        CHECKS.sentence("NoSuchElementException: none such");
        for (int what = -1; what <= 7; what++) {
            CHECKS.dueLookThrows(new RingWeaves(), 0, what);
        }
        RingWeaves x = Checks.laid(Checks.CHAIN, 3, 1);
        for (int wrong : NO_NUMBERS) {
            for (int what = -1; what <= 7; what++) {
                CHECKS.dueLookThrows(x, wrong, what);
            }
        }
        for (int what = 0; what <= 6; what++) {
            CHECKS.dueLookThrows(x, 3, what);
        }
        CHECKS.dueLook(x, 2, 0, 1);
        x.add();
        CHECKS.dueLook(x, 3, 0, 1);
        CHECKS.dueLookThrows(x, 4, 0);
    }

    private static void lookOfTaken() {
        CHECKS.sentence("what 0: 1 there, 0 TAKEN .. NoSuchElementException: .. of a TAKEN one another what than 0");
        RingWeaves x = Checks.laid(Checks.CHAIN, 3, 1);
        x.add();
        x.take(0);
        x.take(3);
        int[] taken = {0, 3};
        for (int ring : taken) {
            CHECKS.dueLook(x, ring, 0, 0);
            for (int what = 1; what <= 7; what++) {
                CHECKS.dueLookThrows(x, ring, what);
            }
            CHECKS.dueLookThrows(x, ring, -1);
        }
        CHECKS.dueLook(x, 1, 0, 1);
        x.mend();
        CHECKS.dueLook(x, 0, 0, 1);
        CHECKS.dueLook(x, 0, 1, 1);
        CHECKS.dueLook(x, 3, 0, 0);
    }

    private static void lookOtherWhat() {
        CHECKS.sentence("Of a RING, what 0 .. 6: .. NoSuchElementException: none such");
        RingWeaves x = Checks.loose(2, 0, 1);
        int[] wrong = {-1, 7, 8, 12, Integer.MAX_VALUE, Integer.MIN_VALUE};
        for (int what : wrong) {
            CHECKS.dueLookThrows(x, 0, what);
        }
        int[] want = {1, 1, 0, 0, 0, 1, 0};
        for (int what = 0; what <= 6; what++) {
            CHECKS.dueLook(x, 0, what, want[what]);
        }
    }

    private static void lookOfTheLastRing() {
        CHECKS.sentence("Of a RING (the last of 300)");
        RingWeaves x = Checks.laid(LINE, 12, 10);
        for (int i = 0; i < 60; i++) {
            x.add();
        }
        x.link(299, 298);
        x.link(299, 297);
        x.sizes(100, 199, 8);
        int[] want = {1, 2, 0, 1, 1, 1, 297};
        for (int what = 0; what <= 6; what++) {
            CHECKS.dueLook(x, 299, what, want[what]);
        }
        CHECKS.due("order of the last", x.order(120), 299);
        CHECKS.due("fewest()", x.fewest(), 121);
    }

    private static void overNoneSuch() {
        CHECKS.sentence("-2: none such there");
        CHECKS.due("over(0, 0) of none", new RingWeaves().over(0, 0), -2);
        RingWeaves x = Checks.laid(Checks.CHAIN, 3, 1);
        for (int wrong : NO_NUMBERS) {
            CHECKS.due("over(0, " + wrong + ")", x.over(0, wrong), -2);
            CHECKS.due("over(" + wrong + ", 0)", x.over(wrong, 0), -2);
            CHECKS.due("over(" + wrong + ", " + wrong + ")", x.over(wrong, wrong), -2);
        }
        CHECKS.due("over(2, 3)", x.over(2, 3), -2);
        CHECKS.due("over(3, 2)", x.over(3, 2), -2);
        x.take(1);
        CHECKS.due("over(0, 1) of a taken one", x.over(0, 1), -2);
        CHECKS.due("over(1, 0)", x.over(1, 0), -2);
        CHECKS.due("over(1, 1)", x.over(1, 1), -2);
        CHECKS.due("over(0, 2)", x.over(0, 2), 0);
    }

    private static void overOrUnder() {
        CHECKS.sentence("1 the first goes over, -1 under the second, 0 not LINKED");
        RingWeaves x = Checks.loose(3, 2, 0);
        CHECKS.due("over(2, 0)", x.over(2, 0), 1);
        CHECKS.due("over(0, 2)", x.over(0, 2), -1);
        CHECKS.due("over(0, 1)", x.over(0, 1), 0);
        CHECKS.due("over(1, 1)", x.over(1, 1), 0);
        CHECKS.due("over(2, 2)", x.over(2, 2), 0);
        RingWeaves under = Checks.laid("ring a;link a a 1 0 under;", 2, 1);
        CHECKS.due("over(0, 1)", under.over(0, 1), -1);
        CHECKS.due("over(1, 0)", under.over(1, 0), 1);
    }

    private static void linkedByNumbers() {
        CHECKS.sentence("The i-th RING, by numbers, LINKED with one");
        RingWeaves x = Checks.loose(300);
        int[] others = {299, 0, 1, 63, 64, 65, 127, 128, 255, 256, 298};
        for (int other : others) {
            CHECKS.due("link with " + other, x.link(other, 150), true);
        }
        CHECKS.dueLinked(x, 150, 0, 1, 63, 64, 65, 127, 128, 255, 256, 298, 299);
        CHECKS.dueLinked(x, 0, 150);
        CHECKS.dueLinked(x, 299, 150);
        CHECKS.due("take(150)", x.take(150), 11);
        for (int other : others) {
            CHECKS.dueLinked(x, other);
        }
    }

    private static void linkedNoneSuch() {
        CHECKS.sentence("The i-th RING .. NONE.");
        CHECKS.due("linked(0, 0) of none", new RingWeaves().linked(0, 0), -1);
        RingWeaves x = Checks.laid(Checks.CHAIN, 3, 1);
        CHECKS.due("linked(1, 1)", x.linked(1, 1), 2);
        CHECKS.due("linked(1, 2)", x.linked(1, 2), -1);
        for (int wrong : NO_NUMBERS) {
            CHECKS.due("linked(1, " + wrong + ")", x.linked(1, wrong), -1);
            CHECKS.due("linked(" + wrong + ", 0)", x.linked(wrong, 0), -1);
        }
        CHECKS.due("linked(3, 0)", x.linked(3, 0), -1);
        x.take(1);
        CHECKS.due("linked(1, 0) of a taken one", x.linked(1, 0), -1);
        CHECKS.due("linked(0, 0), 1 is taken", x.linked(0, 0), -1);
    }

    private static void piecesOfNone() {
        CHECKS.sentence("PIECES: RINGS there that hang together by LINKS (of none, of one)");
        RingWeaves x = new RingWeaves();
        CHECKS.dueCount(x, 2, 0);
        CHECKS.dueCount(x, 5, 0);
        x.add();
        CHECKS.dueCount(x, 2, 1);
        CHECKS.dueLook(x, 0, 6, 0);
        x.take(0);
        CHECKS.dueCount(x, 2, 0);
        RingWeaves all = Checks.loose(300);
        CHECKS.dueCount(all, 2, 300);
        CHECKS.dueLook(all, 299, 6, 299);
    }

    private static void piecesHangTogether() {
        CHECKS.sentence("PIECES: RINGS there that hang together by LINKS .. 6: the least RING of its PIECE");
        // The way from 4 to 0 goes by greater numbers alone.
        RingWeaves x = Checks.loose(8, 4, 7, 5, 7, 5, 6, 0, 6, 3, 2);
        CHECKS.dueCount(x, 2, 3);
        CHECKS.dueLooks(x, 6, 0, 1, 2, 2, 0, 0, 0, 0);
        x.unlink(6, 0);
        CHECKS.dueLooks(x, 6, 0, 1, 2, 2, 4, 4, 4, 4);
        CHECKS.dueCount(x, 2, 4);
        x.take(4);
        CHECKS.dueLook(x, 7, 6, 5);
        CHECKS.dueCount(x, 2, 4);
        x.link(2, 1);
        CHECKS.dueLook(x, 3, 6, 1);
        CHECKS.dueCount(x, 2, 3);
    }

    private static void cutRingsOfFew() {
        CHECKS.sentence("CUT RINGS are those without which there would be more PIECES than with them (few)");
        CHECKS.dueLooks(Checks.loose(1), 4, 0);
        CHECKS.dueLooks(Checks.loose(2, 0, 1), 4, 0, 0);
        CHECKS.dueLooks(Checks.loose(3, 0, 1, 1, 2), 4, 0, 1, 0);
        CHECKS.dueLooks(Checks.loose(3, 1, 0, 0, 2), 4, 1, 0, 0);
        CHECKS.dueLooks(Checks.loose(3, 2, 0, 1, 2), 4, 0, 0, 1);
        CHECKS.dueLooks(Checks.loose(3, 0, 1, 1, 2, 2, 0), 4, 0, 0, 0);
        CHECKS.dueLooks(Checks.loose(4, 0, 1, 2, 3), 4, 0, 0, 0, 0);
        CHECKS.dueLooks(Checks.loose(4, 0, 1, 1, 2, 2, 3, 3, 0), 4, 0, 0, 0, 0);
    }

    private static void cutRings() {
        CHECKS.sentence("CUT RINGS are those without which there would be more PIECES than with them");
        // Two rounds that share 0, a third one that hangs on 3 by a link alone, and a tail.
        RingWeaves x = Checks.loose(10, 0, 1, 1, 2, 2, 0, 0, 3, 3, 4, 4, 0, 3, 5, 5, 6, 6, 7, 7, 5, 7, 8);
        CHECKS.dueLooks(x, 4, 1, 0, 0, 1, 0, 1, 0, 1, 0, 0);
        CHECKS.dueCount(x, 5, 4);
        x.link(8, 1);
        CHECKS.dueLooks(x, 4, 0, 0, 0, 0, 0, 0, 0, 0, 0, 0);
        CHECKS.dueCount(x, 5, 0);
        x.link(9, 8);
        CHECKS.dueLook(x, 8, 4, 1);
        CHECKS.dueCount(x, 5, 1);
        x.take(8);
        CHECKS.dueCount(x, 5, 4 - 1);
    }

    private static void nothingToOpen() {
        CHECKS.sentence("of each LINK one RING at least must be OPENED (no LINK) .. and have a LINK");
        CHECKS.dueOrder(new RingWeaves());
        CHECKS.dueOrder(Checks.loose(300));
        CHECKS.dueLooks(Checks.loose(2), 5, 0, 0);
        CHECKS.dueOrder(Checks.laid(Checks.MESH, 1, 1));
        RingWeaves x = Checks.loose(2, 0, 1);
        CHECKS.dueOrder(x, 0);
        x.take(1);
        CHECKS.dueOrder(x);
        CHECKS.dueLook(x, 0, 5, 0);
    }

    private static void oneOfEachLink() {
        CHECKS.sentence("FEWEST OPENED is the least number that can be");
        CHECKS.dueOrder(Checks.loose(2, 0, 1), 0);
        CHECKS.dueOrder(Checks.loose(2, 1, 0), 0);
        CHECKS.dueOrder(Checks.loose(3, 0, 1, 1, 2), 1);
        CHECKS.dueOrder(Checks.loose(4, 0, 1, 1, 2, 2, 3), 0, 2);
        CHECKS.dueOrder(Checks.loose(4, 3, 0, 3, 1, 3, 2), 3);
        CHECKS.dueOrder(Checks.loose(6, 0, 1, 2, 3, 4, 5), 0, 2, 4);
    }

    private static void partedInTwoSides() {
        CHECKS.sentence("If the RINGS can be parted in two sides with LINKS between the sides alone");
        for (int length = 3; length <= 9; length++) {
            RingWeaves x = Checks.loose(length);
            for (int ring = 0; ring < length; ring++) {
                x.link(ring, (ring + 1) % length);
            }
            boolean parted = length % 2 == 0;
            CHECKS.due("fewest() of a round of " + length, x.fewest(), parted ? length / 2 : -1);
            CHECKS.due("order(0)", x.order(0), parted ? 0 : -1);
            CHECKS.dueLook(x, 0, 5, parted ? 1 : 0);
            x.unlink(length - 1, 0);
            CHECKS.due("fewest() of " + length + " in a line", x.fewest(), length / 2);
        }
    }

    private static void onePieceThatCantBeParted() {
        CHECKS.sentence("If they can't be parted so: none is told .. 5: 1 if OPENED (0 if none is told)");
        RingWeaves x = Checks.loose(7, 0, 1, 4, 5, 5, 6);
        CHECKS.dueOrder(x, 0, 5);
        x.link(6, 4);
        CHECKS.due("fewest()", x.fewest(), -1);
        for (int i = 0; i < 7; i++) {
            CHECKS.due("order(" + i + ")", x.order(i), -1);
            CHECKS.dueLook(x, i, 5, 0);
        }
        // The pieces and cut rings are told all the same.
        CHECKS.dueCount(x, 2, 4);
        CHECKS.dueLook(x, 6, 6, 4);
        x.take(6);
        CHECKS.dueOrder(x, 0, 4);
    }

    private static void longestLine() {
        CHECKS.sentence("300 at most in all (one PIECE, one line of them)");
        RingWeaves x = Checks.laid(LINE, 12, 10);
        for (int row = 1; row < 10; row++) {
            x.link(24 * row - 1, 24 * row);
        }
        for (int ring = 240; ring < 300; ring++) {
            x.add();
            x.link(ring - 1, ring);
        }
        CHECKS.dueCount(x, 1, 299);
        CHECKS.dueCount(x, 2, 1);
        CHECKS.dueCount(x, 5, 298);
        CHECKS.dueLook(x, 299, 6, 0);
        CHECKS.dueLook(x, 0, 4, 0);
        CHECKS.dueLook(x, 298, 4, 1);
        CHECKS.due("fewest()", x.fewest(), 150);
        CHECKS.due("order(0)", x.order(0), 0);
        CHECKS.due("order(149)", x.order(149), 298);
        CHECKS.due("order(150)", x.order(150), -1);
        x.link(299, 0);
        CHECKS.dueCount(x, 5, 0);
        CHECKS.due("fewest() of the round", x.fewest(), 150);
        x.take(299);
        CHECKS.due("fewest() of 299 in a line", x.fewest(), 149);
        CHECKS.due("order(0)", x.order(0), 1);
        CHECKS.due("order(148)", x.order(148), 297);
        x.link(298, 0);
        CHECKS.due("fewest() of a round of 299", x.fewest(), -1);
        CHECKS.dueCount(x, 5, 0);
    }

    private static void densestSheet() {
        CHECKS.sentence("24 links at most .. 240 at most (one PIECE with the most LINKS)");
        StringBuilder text = new StringBuilder("ring a;ring b;");
        for (int i = 0; i < 24; i++) {
            text.append("link a b ").append(i % 5 - 2).append(' ').append(i / 5 - 2).append(" over;");
        }
        RingWeaves x = Checks.laid(text.toString(), 12, 10);
        CHECKS.dueCount(x, 10, 24);
        // Rows and columns 0, 1 and 2 away to either side, but for 2 to the right and 2 down.
        CHECKS.dueCount(x, 1, (12 + 2 * 11 + 2 * 10) * (10 + 2 * 9 + 2 * 8) - 10 * 8);
        CHECKS.dueCount(x, 2, 1);
        CHECKS.dueCount(x, 5, 0);
        CHECKS.due("fewest()", x.fewest(), 120);
        CHECKS.due("order(119)", x.order(119), 238);
        CHECKS.dueLook(x, 238, 5, 1);
        CHECKS.dueLook(x, 239, 5, 0);
        x.link(0, 238);
        CHECKS.due("fewest() with two of one side linked", x.fewest(), -1);
    }

    /**
     * All mail of three and four rings that can be parted. Of all ways to open the fewest, the one that the document
     * tells is the one with the most rings of the first sides: A, what need not be opened there, is reached from rings
     * in no pair, and nothing smaller would do.
     */
    private static void everySmallMail() {
        CHECKS.sentence("OPENED are the RINGS of the first side that are not of A and have a LINK, and those of B.");
        int[] some = {1, 3, 6};
        int[] rest = {0, 2, 4, 5};
        for (int links = 0; links < 1 << 12; links++) {
            int[] near = new int[7];
            RingWeaves x = Checks.loose(7);
            for (int bit = 0; bit < 12; bit++) {
                if ((links >> bit & 1) == 1) {
                    int a = some[bit / 4];
                    int b = rest[bit % 4];
                    near[a] |= 1 << b;
                    near[b] |= 1 << a;
                    x.link(a, b);
                }
            }
            int want = bestWay(near, firstSides(near));
            CHECKS.due("fewest() of links " + links, x.fewest(), Integer.bitCount(want));
            for (int ring = 0; ring < 7; ring++) {
                CHECKS.dueLook(x, ring, 5, want >> ring & 1);
            }
        }
    }

    private static int firstSides(int[] near) {
        int first = 0;
        int second = 0;
        for (int ring = 0; ring < near.length; ring++) {
            if (((first | second) >> ring & 1) == 0) {
                first |= 1 << ring;
                for (int n = 0; n < near.length; n++) {
                    second |= nearTo(near, first);
                    first |= nearTo(near, second);
                }
            }
        }
        return first;
    }

    private static int nearTo(int[] near, int rings) {
        int found = 0;
        for (int ring = 0; ring < near.length; ring++) {
            if ((rings >> ring & 1) == 1) {
                found |= near[ring];
            }
        }
        return found;
    }

    private static int bestWay(int[] near, int first) {
        int best = (1 << near.length) - 1;
        for (int way = 0; way < 1 << near.length; way++) {
            boolean opensAll = true;
            for (int ring = 0; ring < near.length; ring++) {
                opensAll &= (way >> ring & 1) == 1 || (near[ring] & ~way) == 0;
            }
            int fewer = Integer.bitCount(best) - Integer.bitCount(way);
            int moreOfFirst = Integer.bitCount(way & first) - Integer.bitCount(best & first);
            if (opensAll && (fewer > 0 || fewer == 0 && moreOfFirst > 0)) {
                best = way;
            }
        }
        return best;
    }

    private static void pairsThatChange() {
        CHECKS.sentence("with as many pairs of linked RINGS as can be so that no RING is in two of them");
        // Each ring 2i is linked with 2i + 1 and 2i + 3, the last one with 1 alone: all pairs have to move on by one.
        RingWeaves x = Checks.loose(40);
        for (int i = 0; i < 19; i++) {
            x.link(2 * i, 2 * i + 1);
            x.link(2 * i, 2 * i + 3);
        }
        x.link(1, 38);
        CHECKS.due("fewest()", x.fewest(), 20);
        CHECKS.due("order(0)", x.order(0), 0);
        CHECKS.due("order(19)", x.order(19), 38);
        // Without ring 39 one ring of the first side is in no pair, and all others can be reached from it.
        x.take(39);
        CHECKS.due("fewest()", x.fewest(), 19);
        for (int i = 0; i < 19; i++) {
            CHECKS.dueLook(x, 2 * i + 1, 5, 1);
            CHECKS.dueLook(x, 2 * i, 5, 0);
        }
    }

    private static void firstSideHasTheLeast() {
        CHECKS.sentence("in each PIECE the side of its RING of least number is the first one");
        // Two pairs each, so either side would do: the first one's are opened.
        CHECKS.dueOrder(Checks.loose(8, 7, 4, 4, 6, 6, 5, 0, 3, 3, 1, 1, 2), 0, 1, 4, 5);
        RingWeaves x = Checks.loose(5, 1, 4, 4, 2, 2, 3, 0, 1);
        CHECKS.dueOrder(x, 1, 2);
        x.take(0);
        CHECKS.dueOrder(x, 1, 2);
        x.take(1);
        CHECKS.dueOrder(x, 2);
    }

    private static void orderLeastFirst() {
        CHECKS.sentence("ORDER of the OPENED ones: the least number first");
        CHECKS.dueOrder(Checks.loose(7, 6, 0, 6, 1, 5, 2, 5, 3), 5, 6);
        CHECKS.dueOrder(Checks.loose(2, 1, 0), 0);
    }

    private static void orderByWhatIsAtHand() {
        CHECKS.sentence("then always the least of those that are LINKED with a RING that is at hand");
        // Stars at 0, 1, 2, 3: from 0 by 12 to 3, from there by 13 to 1; 2 is one link away from 3.
        RingWeaves x = Checks.loose(14, 0, 4, 0, 5, 1, 6, 1, 7, 2, 8, 2, 9, 3, 10, 3, 11, 0, 12, 3, 12, 3, 13, 1, 13);
        CHECKS.dueOrder(x, 0, 3, 1, 2);
        x.link(13, 2);
        CHECKS.dueOrder(x, 0, 3, 1, 2);
        x.unlink(13, 1);
        CHECKS.dueOrder(x, 0, 3, 2, 1);
        // Ring 0 is at hand, as linked with 1, and 9 is linked with it: ahead of 4 of another piece.
        CHECKS.dueOrder(Checks.loose(10, 0, 1, 0, 9, 1, 2, 1, 3, 9, 7, 9, 8, 4, 5, 4, 6), 1, 9, 4);
        // One linked with an opened one itself is at hand as well.
        CHECKS.dueOrder(Checks.loose(10, 0, 4, 0, 5, 9, 6, 9, 7, 0, 9, 1, 2, 1, 3), 0, 9, 1);
    }

    private static void orderNoneAtHand() {
        CHECKS.sentence("or with none at hand if there is no such one");
        CHECKS.dueOrder(Checks.loose(6, 4, 5, 2, 3, 0, 1), 0, 2, 4);
        // 8 hangs together with 0 by 5; 1 and 3 are of other pieces, and wait though their numbers are less.
        CHECKS.dueOrder(Checks.loose(9, 0, 5, 0, 6, 8, 5, 8, 7, 1, 2, 3, 4), 0, 8, 1, 3);
    }

    private static void orderNone() {
        CHECKS.sentence("The i-th of the ORDER; NONE: none, none is told.");
        RingWeaves x = Checks.laid(Checks.CHAIN, 4, 1);
        CHECKS.due("order(1)", x.order(1), 2);
        CHECKS.due("order(2)", x.order(2), -1);
        for (int wrong : NO_NUMBERS) {
            CHECKS.due("order(" + wrong + ")", x.order(wrong), -1);
        }
        CHECKS.due("order(0) of a new object", new RingWeaves().order(0), -1);
        CHECKS.due("order(-1) of a new object", new RingWeaves().order(-1), -1);
    }

    private static void askedAgainAfterEachChange() {
        CHECKS.sentence("PIECES, CUT RINGS, OPENED and ORDER are those of the RINGS there now");
        RingWeaves x = Checks.laid(Checks.CHAIN, 3, 1);
        dueNow(x, 1, 1, 1);
        x.add();
        dueNow(x, 2, 1, 1);
        x.link(3, 2);
        dueNow(x, 1, 2, 0, 2);
        x.unlink(2, 3);
        dueNow(x, 2, 1, 1);
        x.take(1);
        dueNow(x, 3, 0);
        x.mend();
        dueNow(x, 2, 1, 1);
        x.take(3);
        dueNow(x, 1, 1, 1);
        x.lay(4, 1);
        dueNow(x, 1, 2, 0, 2);
        x.link(0, 2);
        CHECKS.due("fewest()", x.fewest(), -1);
        x.lay(4, 1);
        dueNow(x, 1, 2, 0, 2);
        // Order asked ahead of all else.
        x.take(0);
        CHECKS.due("order(0)", x.order(0), 2);
        x.mend();
        CHECKS.due("order(0)", x.order(0), 0);
        // Two changes at once.
        x.add();
        x.link(4, 3);
        dueNow(x, 1, 3, 1, 3);
        x.unlink(4, 3);
        x.add();
        dueNow(x, 3, 2, 0, 2);
    }

    private static void dueNow(RingWeaves x, int pieces, int cut, int... order) {
        CHECKS.dueCount(x, 2, pieces);
        CHECKS.dueCount(x, 5, cut);
        CHECKS.dueOrder(x, order);
    }

    private static void askedAgainAfterLoneRings() {
        CHECKS.sentence("PIECES: RINGS there (changes that touch no LINK)");
        RingWeaves x = Checks.laid("ring a;", 2, 1);
        CHECKS.dueCount(x, 2, 2);
        x.lay(3, 1);
        CHECKS.dueCount(x, 2, 3);
        x.take(0);
        CHECKS.dueCount(x, 2, 2);
        x.mend();
        CHECKS.dueCount(x, 2, 3);
        CHECKS.dueLook(x, 0, 6, 0);
        x.add();
        CHECKS.dueCount(x, 2, 4);
        CHECKS.dueLook(x, 3, 6, 3);
    }
}
