/** Promises 4 to 10 and the document's section 2 (SHEETS): each sentence that names a boundary, one function each. */
public final class SheetEdgesTest {
    private static final String FOUR = "ring a;ring b;ring c;ring d;";
    /** None of these is the number of a ring, whatever is there; nor a column, a row or a k. */
    private static final int[] NO_NUMBERS = {-1, -2, 300, 301, 320, 4096, Integer.MAX_VALUE, Integer.MIN_VALUE};

    private static final Checks CHECKS = new Checks();

    public static void main(String[] args) {
        layWithoutWeave();
        layColumnsAndRows();
        layMostRings();
        refusedLayChangesNothing();
        numberedByRows();
        linksBetweenCellsThatAreThere();
        noLinkGoesRound();
        linksNineAway();
        whatWasThereIsAway();
        whatLayLeaves();
        atNoneSuch();
        atOfAddedAndTaken();
        addBehindAll();
        addUpTo300();
        takenWithItsLinks();
        takeNoneSuch();
        takeMostLinks();
        linkTwoThatAreThere();
        unlinkTwoThatAreThere();
        refusedLinkChangesNothing();
        fullBeyondTheSheet();
        fullJustSo();
        fullOthersDontCount();
        addedNeverFull();
        wornAreOfCells();
        mendNone();
        mendAll();
        mendFirstAndLast();
        mendAsTold();
        mendLeavesOthers();
        CHECKS.finish();
    }

    private static void layWithoutWeave() {
        CHECKS.sentence("NONE: no WEAVE");
        RingWeaves x = Checks.loose(2, 0, 1);
        CHECKS.due("lay(1, 1)", x.lay(1, 1), -1);
        CHECKS.due("lay(12, 12)", x.lay(12, 12), -1);
        CHECKS.due("over(0, 1)", x.over(0, 1), 1);
        CHECKS.dueCount(x, 8, 2);
        CHECKS.due("at(0, 0, 0)", x.at(0, 0, 0), -1);
    }

    private static void layColumnsAndRows() {
        CHECKS.sentence("so many columns and rows of cells (1 to 12 .. NONE: .. other columns, rows");
        RingWeaves x = Checks.withWeave(Checks.MESH);
        for (int side = 1; side <= 12; side++) {
            CHECKS.due("lay(" + side + ", 1)", x.lay(side, 1), side);
            CHECKS.dueCount(x, 1, side - 1);
            CHECKS.due("lay(1, " + side + ")", x.lay(1, side), side);
            CHECKS.dueCount(x, 1, side - 1);
        }
        CHECKS.due("lay(12, 12)", x.lay(12, 12), 144);
        int[] wrong = {0, -1, 13, 14, -12, 256, 65537, 1 << 29, Integer.MAX_VALUE, Integer.MIN_VALUE};
        for (int side : wrong) {
            CHECKS.due("lay(" + side + ", 1)", x.lay(side, 1), -1);
            CHECKS.due("lay(1, " + side + ")", x.lay(1, side), -1);
            CHECKS.due("lay(" + side + ", 12)", x.lay(side, 12), -1);
            CHECKS.due("lay(" + side + ", " + side + ")", x.lay(side, side), -1);
        }
        CHECKS.dueCount(x, 8, 144);
    }

    private static void layMostRings() {
        CHECKS.sentence("cells times RINGS of one 240 at most .. NONE: .. more than 240");
        RingWeaves two = Checks.withWeave("ring a;ring b;");
        CHECKS.due("lay(12, 10)", two.lay(12, 10), 240);
        CHECKS.due("lay(10, 12)", two.lay(10, 12), 240);
        CHECKS.due("lay(11, 11) is 242", two.lay(11, 11), -1);
        CHECKS.due("lay(12, 11)", two.lay(12, 11), -1);
        RingWeaves three = Checks.withWeave("ring a;ring b;ring c;");
        CHECKS.due("lay(8, 10)", three.lay(8, 10), 240);
        CHECKS.due("lay(11, 7) is 231", three.lay(11, 7), 231);
        CHECKS.due("lay(9, 9) is 243", three.lay(9, 9), -1);
        RingWeaves four = Checks.withWeave(FOUR);
        CHECKS.due("lay(12, 5)", four.lay(12, 5), 240);
        CHECKS.due("lay(6, 10)", four.lay(6, 10), 240);
        CHECKS.due("lay(7, 9) is 252", four.lay(7, 9), -1);
        CHECKS.due("lay(12, 6)", four.lay(12, 6), -1);
        CHECKS.due("lay(8, 8) is 256", four.lay(8, 8), -1);
        CHECKS.dueCount(four, 0, 240);
    }

    private static void refusedLayChangesNothing() {
        CHECKS.sentence("NONE: no WEAVE, other columns, rows, more than 240 (a refused call)");
        RingWeaves x = Checks.laid(Checks.MESH, 3, 3);
        x.add();
        x.link(9, 4);
        x.take(8);
        Checks.feed(x, FOUR);
        x.weave();
        CHECKS.due("lay(13, 1)", x.lay(13, 1), -1);
        CHECKS.due("lay(12, 12)", x.lay(12, 12), -1);
        CHECKS.dueCount(x, 0, 9);
        CHECKS.dueCount(x, 1, 11);
        CHECKS.dueCount(x, 3, 1);
        CHECKS.dueCount(x, 8, 10);
        CHECKS.dueCount(x, 12, 1);
        CHECKS.due("at(2, 2, 0)", x.at(2, 2, 0), 8);
        CHECKS.due("at(3, 0, 0)", x.at(3, 0, 0), -1);
        CHECKS.due("at(0, 0, 1)", x.at(0, 0, 1), -1);
        CHECKS.due("mend()", x.mend(), 1);
        CHECKS.due("over(7, 8)", x.over(7, 8), 1);
    }

    private static void numberedByRows() {
        CHECKS.sentence("numbered by rows, in a row by columns, in a cell as told");
        RingWeaves x = Checks.laid("ring z;ring a;", 12, 10);
        CHECKS.due("at(0, 0, 0)", x.at(0, 0, 0), 0);
        CHECKS.due("at(0, 0, 1)", x.at(0, 0, 1), 1);
        CHECKS.due("at(11, 0, 1)", x.at(11, 0, 1), 23);
        CHECKS.due("at(0, 1, 0)", x.at(0, 1, 0), 24);
        CHECKS.due("at(11, 9, 1)", x.at(11, 9, 1), 239);
        RingWeaves column = Checks.laid(FOUR, 1, 12);
        CHECKS.due("at(0, 11, 3)", column.at(0, 11, 3), 47);
        CHECKS.due("at(1, 0, 0)", column.at(1, 0, 0), -1);
        RingWeaves told = Checks.laid("ring z;ring a;link z a 0 0 over;link a z 1 0 over;", 2, 1);
        CHECKS.due("over(0, 1): z is told first", told.over(0, 1), 1);
        CHECKS.due("over(1, 2)", told.over(1, 2), 1);
        CHECKS.due("over(0, 3)", told.over(0, 3), 0);
    }

    private static void linksBetweenCellsThatAreThere() {
        CHECKS.sentence("all links between cells that are there");
        RingWeaves one = Checks.laid(Checks.MESH, 1, 1);
        CHECKS.dueCount(one, 1, 0);
        RingWeaves inCell = Checks.laid("ring a;ring b;link b a 0 0 over;link a b 1 0 over;", 1, 1);
        CHECKS.dueCount(inCell, 1, 1);
        CHECKS.due("over(1, 0)", inCell.over(1, 0), 1);
        RingWeaves column = Checks.laid(Checks.MESH, 1, 3);
        CHECKS.dueCount(column, 1, 2);
        CHECKS.due("over(0, 1)", column.over(0, 1), -1);
        CHECKS.due("over(2, 1)", column.over(2, 1), 1);
        RingWeaves back = Checks.laid("ring a;link a a - 1 - 1 over;", 3, 2);
        CHECKS.dueCount(back, 1, 2);
        CHECKS.due("over(4, 0)", back.over(4, 0), 1);
        CHECKS.due("over(5, 1)", back.over(5, 1), 1);
    }

    private static void noLinkGoesRound() {
        CHECKS.sentence("all links between cells that are there (none from a row's end to the next row's start)");
        RingWeaves right = Checks.laid(Checks.CHAIN, 3, 2);
        CHECKS.dueCount(right, 1, 4);
        CHECKS.due("over(2, 3)", right.over(2, 3), 0);
        CHECKS.due("over(0, 2)", right.over(0, 2), 0);
        RingWeaves left = Checks.laid("ring a;link a a -2 1 over;", 3, 3);
        CHECKS.dueCount(left, 1, 2);
        CHECKS.due("over(2, 3)", left.over(2, 3), 1);
        CHECKS.due("over(5, 6)", left.over(5, 6), 1);
        CHECKS.due("over(1, 2)", left.over(1, 2), 0);
        RingWeaves down = Checks.laid("ring a;link a a 0 2 over;", 2, 3);
        CHECKS.dueCount(down, 1, 2);
        CHECKS.due("over(0, 4)", down.over(0, 4), 1);
        CHECKS.due("over(2, 0)", down.over(2, 0), 0);
    }

    private static void linksNineAway() {
        CHECKS.sentence("so many columns and rows away (to the right, down; - the other way) .. 0 to 9");
        String far = "ring a;ring b;link a b 9 -9 over;";
        CHECKS.dueCount(Checks.laid(far, 9, 10), 1, 0);
        CHECKS.dueCount(Checks.laid(far, 10, 9), 1, 0);
        RingWeaves x = Checks.laid(far, 10, 10);
        CHECKS.dueCount(x, 1, 1);
        CHECKS.due("over(at(0, 9, 0), at(9, 0, 1))", x.over(180, 19), 1);
        CHECKS.dueCount(x, 3, 2);
        CHECKS.dueCount(Checks.laid("ring a;link a a -9 9 under;", 12, 12), 1, 9);
        CHECKS.dueCount(Checks.laid("ring a;link a a -9 0 under;", 12, 12), 1, 36);
    }

    private static void whatWasThereIsAway() {
        CHECKS.sentence("What was there is away.");
        RingWeaves x = Checks.laid(Checks.MESH, 12, 12);
        CHECKS.due("add()", x.add(), 144);
        x.link(144, 0);
        x.link(0, 13);
        x.take(5);
        CHECKS.dueCount(x, 2, 1);
        CHECKS.due("lay(2, 2)", x.lay(2, 2), 4);
        CHECKS.dueCount(x, 0, 4);
        CHECKS.dueCount(x, 1, 4);
        CHECKS.dueCount(x, 2, 1);
        CHECKS.dueCount(x, 8, 4);
        CHECKS.dueCount(x, 12, 0);
        CHECKS.dueLookThrows(x, 4, 0);
        CHECKS.dueLookThrows(x, 144, 0);
        CHECKS.due("mend()", x.mend(), 0);
        CHECKS.due("add()", x.add(), 4);
        CHECKS.dueLook(x, 4, 1, 0);
        CHECKS.due("at(2, 0, 0)", x.at(2, 0, 0), -1);
        CHECKS.due("lay(3, 3)", x.lay(3, 3), 9);
        CHECKS.dueLooks(x, 0, 1, 1, 1, 1, 1, 1, 1, 1, 1);
        CHECKS.due("over(3, 4)", x.over(3, 4), 1);
        CHECKS.due("over(0, 4)", x.over(0, 4), 0);
    }

    private static void whatLayLeaves() {
        CHECKS.sentence("LAID OUT (the WEAVE, the TAPE and the SIZES are not what was there)");
        RingWeaves x = Checks.laid(Checks.MESH, 2, 1);
        x.sizes(100, 190, 5);
        Checks.feed(x, "ring");
        x.lay(3, 1);
        CHECKS.dueCount(x, 6, 2733);
        CHECKS.dueCount(x, 7, 136);
        CHECKS.dueCount(x, 9, 1);
        CHECKS.dueCount(x, 10, 2);
        CHECKS.dueCount(x, 11, 4);
    }

    private static void atNoneSuch() {
        CHECKS.sentence("The RING of a cell (k-th of it); NONE: none such in the sheet.");
        RingWeaves x = Checks.withWeave("ring a;ring b;ring c;");
        CHECKS.due("at(0, 0, 0) ahead of a sheet", x.at(0, 0, 0), -1);
        x.lay(2, 4);
        CHECKS.due("at(1, 3, 2)", x.at(1, 3, 2), 23);
        CHECKS.due("at(2, 0, 0)", x.at(2, 0, 0), -1);
        CHECKS.due("at(0, 4, 0)", x.at(0, 4, 0), -1);
        CHECKS.due("at(0, 0, 3)", x.at(0, 0, 3), -1);
        for (int wrong : NO_NUMBERS) {
            CHECKS.due("at(" + wrong + ", 0, 0)", x.at(wrong, 0, 0), -1);
            CHECKS.due("at(0, " + wrong + ", 0)", x.at(0, wrong, 0), -1);
            CHECKS.due("at(0, 0, " + wrong + ")", x.at(0, 0, wrong), -1);
            CHECKS.due("at(1, " + wrong + ", 2)", x.at(1, wrong, 2), -1);
        }
    }

    private static void atOfAddedAndTaken() {
        CHECKS.sentence("ADDED .. it has no cell; TAKEN .. (its number stays)");
        RingWeaves x = Checks.laid(Checks.CHAIN, 2, 1);
        x.add();
        x.add();
        CHECKS.due("at(2, 0, 0)", x.at(2, 0, 0), -1);
        CHECKS.due("at(0, 1, 0)", x.at(0, 1, 0), -1);
        CHECKS.due("at(1, 0, 1)", x.at(1, 0, 1), -1);
        x.take(1);
        CHECKS.due("at(1, 0, 0)", x.at(1, 0, 0), 1);
    }

    private static void addBehindAll() {
        CHECKS.sentence("ADDED: one RING more, behind all .. it is linked with told ones");
        RingWeaves x = new RingWeaves();
        CHECKS.due("add() without sheet or weave", x.add(), 0);
        CHECKS.due("take(0)", x.take(0), 0);
        CHECKS.due("add() behind a taken one", x.add(), 1);
        CHECKS.dueCount(x, 0, 1);
        CHECKS.dueCount(x, 8, 2);
        CHECKS.dueLook(x, 1, 0, 1);
        CHECKS.dueLook(x, 1, 1, 0);
        RingWeaves sheet = Checks.laid(Checks.CHAIN, 3, 1);
        sheet.take(2);
        CHECKS.due("add() behind the sheet", sheet.add(), 3);
        CHECKS.dueLinked(sheet, 3);
        CHECKS.dueCount(sheet, 2, 2);
        CHECKS.due("link(3, 1)", sheet.link(3, 1), true);
        CHECKS.dueCount(sheet, 2, 1);
    }

    private static void addUpTo300() {
        CHECKS.sentence("300 at most in all .. NONE: 300 are there");
        RingWeaves x = Checks.laid("ring a;ring b;link a b 0 0 over;", 12, 10);
        for (int ring = 240; ring < 300; ring++) {
            CHECKS.due("add()", x.add(), ring);
        }
        CHECKS.due("add() to 300", x.add(), -1);
        CHECKS.due("add() to 300", x.add(), -1);
        CHECKS.dueCount(x, 0, 300);
        CHECKS.dueCount(x, 8, 300);
        CHECKS.dueCount(x, 1, 120);
        CHECKS.dueCount(x, 2, 180);
        CHECKS.due("take(299)", x.take(299), 0);
        CHECKS.due("add(): the number 299 stays", x.add(), -1);
        CHECKS.due("mend()", x.mend(), 0);
        CHECKS.dueCount(x, 0, 299);
        CHECKS.due("lay(1, 1)", x.lay(1, 1), 2);
        CHECKS.due("add() behind the new sheet", x.add(), 2);
    }

    private static void takenWithItsLinks() {
        CHECKS.sentence("TAKEN: a RING is away, with its links (its number stays): how many LINKS it had");
        RingWeaves x = Checks.laid(Checks.MESH, 3, 3);
        CHECKS.due("take(4)", x.take(4), 4);
        CHECKS.dueCount(x, 0, 8);
        CHECKS.dueCount(x, 1, 8);
        CHECKS.dueCount(x, 8, 9);
        CHECKS.dueLook(x, 4, 0, 0);
        CHECKS.dueLook(x, 5, 6, 0);
        CHECKS.dueLinked(x, 1, 0, 2);
        CHECKS.dueLinked(x, 4);
        CHECKS.due("take(3), one of its links went with 4", x.take(3), 2);
        CHECKS.due("take(0), one with 3", x.take(0), 1);
        RingWeaves pair = Checks.loose(2, 1, 0);
        CHECKS.due("take(0)", pair.take(0), 1);
        CHECKS.due("take(1)", pair.take(1), 0);
        CHECKS.dueCount(pair, 0, 0);
        CHECKS.dueCount(pair, 8, 2);
        CHECKS.dueCount(pair, 2, 0);
    }

    private static void takeNoneSuch() {
        CHECKS.sentence("NONE: none such there.");
        CHECKS.due("take(0) of none", new RingWeaves().take(0), -1);
        RingWeaves x = Checks.laid(Checks.CHAIN, 3, 1);
        for (int wrong : NO_NUMBERS) {
            CHECKS.due("take(" + wrong + ")", x.take(wrong), -1);
        }
        CHECKS.due("take(3)", x.take(3), -1);
        CHECKS.due("take(2)", x.take(2), 1);
        CHECKS.due("take(2)", x.take(2), -1);
        CHECKS.dueCount(x, 0, 2);
        CHECKS.dueCount(x, 1, 1);
        CHECKS.dueCount(x, 12, 1);
    }

    private static void takeMostLinks() {
        CHECKS.sentence("how many LINKS it had");
        RingWeaves x = Checks.laid(FOUR, 5, 12);
        x.add();
        for (int ring = 0; ring < 240; ring++) {
            x.link(ring % 2 == 0 ? ring : 240, ring % 2 == 0 ? 240 : ring);
        }
        CHECKS.dueLook(x, 240, 1, 240);
        CHECKS.dueCount(x, 2, 1);
        CHECKS.due("take(239)", x.take(239), 1);
        CHECKS.due("take(240)", x.take(240), 239);
        CHECKS.dueCount(x, 1, 0);
        CHECKS.dueCount(x, 2, 239);
        CHECKS.dueLinked(x, 0);
        CHECKS.dueLinked(x, 238);
    }

    private static void linkTwoThatAreThere() {
        CHECKS.sentence("LINKED, the first over the second: true; false: none such there, the same, they are.");
        RingWeaves x = Checks.loose(4);
        for (int wrong : NO_NUMBERS) {
            CHECKS.due("link(0, " + wrong + ")", x.link(0, wrong), false);
            CHECKS.due("link(" + wrong + ", 0)", x.link(wrong, 0), false);
            CHECKS.due("link(" + wrong + ", " + wrong + ")", x.link(wrong, wrong), false);
        }
        CHECKS.due("link(4, 0)", x.link(4, 0), false);
        CHECKS.due("link(0, 4)", x.link(0, 4), false);
        CHECKS.due("link(0, 0)", x.link(0, 0), false);
        CHECKS.due("link(3, 3)", x.link(3, 3), false);
        CHECKS.due("link(3, 0)", x.link(3, 0), true);
        CHECKS.due("over(3, 0)", x.over(3, 0), 1);
        CHECKS.due("over(0, 3)", x.over(0, 3), -1);
        x.take(1);
        CHECKS.due("link(1, 2)", x.link(1, 2), false);
        CHECKS.due("link(2, 1)", x.link(2, 1), false);
        CHECKS.due("link(1, 1)", x.link(1, 1), false);
        CHECKS.dueCount(x, 1, 1);
        // One whose link went with it is not linked any more, and can be again.
        RingWeaves sheet = Checks.laid(Checks.CHAIN, 2, 1);
        sheet.take(1);
        CHECKS.due("link(1, 0) of a taken one", sheet.link(1, 0), false);
        CHECKS.due("mend()", sheet.mend(), 1);
        CHECKS.due("link(1, 0): they are", sheet.link(1, 0), false);
    }

    private static void unlinkTwoThatAreThere() {
        CHECKS.sentence("UNLINKED: true; false: they are not LINKED, none such.");
        RingWeaves x = Checks.laid(Checks.CHAIN, 4, 1);
        for (int wrong : NO_NUMBERS) {
            CHECKS.due("unlink(0, " + wrong + ")", x.unlink(0, wrong), false);
            CHECKS.due("unlink(" + wrong + ", 0)", x.unlink(wrong, 0), false);
        }
        CHECKS.due("unlink(3, 4)", x.unlink(3, 4), false);
        CHECKS.due("unlink(4, 3)", x.unlink(4, 3), false);
        CHECKS.due("unlink(0, 0)", x.unlink(0, 0), false);
        CHECKS.due("unlink(0, 2)", x.unlink(0, 2), false);
        CHECKS.dueCount(x, 1, 3);
        CHECKS.due("unlink(0, 1): from the upper", x.unlink(0, 1), true);
        CHECKS.due("unlink(0, 1)", x.unlink(0, 1), false);
        CHECKS.due("unlink(1, 0)", x.unlink(1, 0), false);
        CHECKS.due("unlink(2, 1): from the lower", x.unlink(2, 1), true);
        CHECKS.due("over(1, 2)", x.over(1, 2), 0);
        x.take(3);
        CHECKS.due("unlink(2, 3)", x.unlink(2, 3), false);
        CHECKS.due("unlink(3, 2)", x.unlink(3, 2), false);
        CHECKS.dueCount(x, 1, 0);
        CHECKS.due("link(1, 0)", x.link(1, 0), true);
        CHECKS.due("over(0, 1) the other way", x.over(0, 1), -1);
        CHECKS.due("over(1, 0)", x.over(1, 0), 1);
    }

    private static void refusedLinkChangesNothing() {
        CHECKS.sentence("false: .. they are (a refused call)");
        RingWeaves x = Checks.loose(2, 0, 1);
        CHECKS.due("link(1, 0)", x.link(1, 0), false);
        CHECKS.due("over(0, 1) stays", x.over(0, 1), 1);
        CHECKS.due("over(1, 0) stays", x.over(1, 0), -1);
        CHECKS.dueCount(x, 1, 1);
        CHECKS.dueLook(x, 0, 1, 1);
    }

    private static void fullBeyondTheSheet() {
        CHECKS.sentence("with cells beyond the sheet there are none: it is not FULL then");
        CHECKS.dueLooks(Checks.laid(Checks.CHAIN, 1, 1), 2, 0);
        CHECKS.dueLooks(Checks.laid(Checks.CHAIN, 2, 1), 2, 0, 0);
        CHECKS.dueLooks(Checks.laid(Checks.CHAIN, 3, 1), 2, 0, 1, 0);
        CHECKS.dueLooks(Checks.laid(Checks.CHAIN, 3, 2), 2, 0, 1, 0, 0, 1, 0);
        CHECKS.dueLooks(Checks.laid("ring a;link a a 0 1 over;", 1, 3), 2, 0, 1, 0);
        CHECKS.dueLooks(Checks.laid("ring a;link a a 0 -1 under;", 2, 3), 2, 0, 0, 1, 1, 0, 0);
        // Of two rings one may have all its links in the sheet: to the right of the last cell b's are told.
        CHECKS.dueLooks(Checks.laid("ring a;ring b;link b a 1 0 over;", 2, 1), 2, 0, 1, 1, 0);
        CHECKS.dueCount(Checks.laid(Checks.MESH, 12, 12), 3, 100);
        CHECKS.dueCount(Checks.laid(Checks.MESH, 2, 12), 3, 0);
        CHECKS.sentence("FULL is a RING of a cell whose LINKS by the WEAVE are all there (without any, all are)");
        CHECKS.dueLooks(Checks.laid("ring a;ring b;link b b 1 0 over;", 1, 1), 2, 1, 0);
        CHECKS.dueLooks(Checks.laid("ring a;ring b;link a b 0 0 over;", 1, 2), 2, 1, 1, 1, 1);
    }

    private static void fullJustSo() {
        CHECKS.sentence("whose LINKS by the WEAVE are all there, just so");
        RingWeaves x = Checks.laid(Checks.CHAIN, 5, 1);
        CHECKS.dueLooks(x, 2, 0, 1, 1, 1, 0);
        x.unlink(2, 1);
        CHECKS.dueLooks(x, 2, 0, 0, 0, 1, 0);
        x.link(2, 1);
        CHECKS.dueLooks(x, 2, 0, 0, 0, 1, 0);
        CHECKS.dueCount(x, 3, 1);
        x.unlink(1, 2);
        x.link(1, 2);
        CHECKS.dueLooks(x, 2, 0, 1, 1, 1, 0);
        x.take(0);
        CHECKS.dueLook(x, 1, 2, 0);
        CHECKS.dueLook(x, 2, 2, 1);
        x.take(3);
        CHECKS.dueLook(x, 2, 2, 0);
        CHECKS.dueCount(x, 3, 0);
        CHECKS.due("mend()", x.mend(), 2);
        CHECKS.dueLooks(x, 2, 0, 1, 1, 1, 0);
        RingWeaves under = Checks.laid("ring a;link a a 1 0 under;", 3, 1);
        CHECKS.dueLooks(under, 2, 0, 1, 0);
        under.unlink(1, 2);
        under.link(1, 2);
        CHECKS.dueLooks(under, 2, 0, 0, 0);
    }

    private static void fullOthersDontCount() {
        CHECKS.sentence("other LINKS don't count");
        RingWeaves x = Checks.laid(Checks.CHAIN, 3, 1);
        x.add();
        x.link(3, 1);
        x.link(0, 2);
        CHECKS.dueLooks(x, 2, 0, 1, 0);
        // No link with another ring stands for the one beyond the sheet.
        x.link(3, 0);
        x.link(2, 3);
        CHECKS.dueLooks(x, 2, 0, 1, 0);
        x.take(3);
        CHECKS.dueLooks(x, 2, 0, 1, 0);
    }

    private static void addedNeverFull() {
        CHECKS.sentence("an ADDED one never is");
        RingWeaves loose = Checks.loose(1);
        CHECKS.dueLook(loose, 0, 2, 0);
        CHECKS.dueCount(loose, 3, 0);
        RingWeaves x = Checks.laid("ring a;", 1, 1);
        x.add();
        x.add();
        CHECKS.dueLooks(x, 2, 1, 0, 0);
        CHECKS.dueCount(x, 3, 1);
        RingWeaves chain = Checks.laid(Checks.CHAIN, 3, 1);
        chain.add();
        chain.add();
        chain.link(2, 3);
        chain.link(3, 4);
        CHECKS.dueLooks(chain, 2, 0, 1, 0, 0, 0);
        CHECKS.dueCount(chain, 3, 1);
    }

    private static void wornAreOfCells() {
        CHECKS.sentence("WORN are RINGS of cells that are TAKEN.");
        RingWeaves x = Checks.laid(Checks.CHAIN, 3, 1);
        x.add();
        CHECKS.dueCount(x, 12, 0);
        x.take(3);
        CHECKS.dueCount(x, 12, 0);
        x.take(0);
        CHECKS.dueCount(x, 12, 1);
        x.take(2);
        x.take(1);
        CHECKS.dueCount(x, 12, 3);
        CHECKS.dueCount(x, 0, 0);
        RingWeaves loose = Checks.loose(2);
        loose.take(0);
        CHECKS.dueCount(loose, 12, 0);
    }

    private static void mendNone() {
        CHECKS.sentence("MENDED: how many RINGS came back (none)");
        CHECKS.due("mend() of a new object", new RingWeaves().mend(), 0);
        RingWeaves loose = Checks.loose(2, 0, 1);
        loose.take(0);
        CHECKS.due("mend() without a sheet", loose.mend(), 0);
        CHECKS.dueLook(loose, 0, 0, 0);
        RingWeaves x = Checks.laid(Checks.CHAIN, 2, 1);
        x.add();
        x.link(2, 0);
        x.unlink(0, 1);
        x.take(2);
        CHECKS.due("mend() with an added one taken", x.mend(), 0);
        CHECKS.dueLook(x, 2, 0, 0);
        CHECKS.due("over(0, 1) stays unlinked", x.over(0, 1), 0);
    }

    private static void mendAll() {
        CHECKS.sentence("MENDED: all of these are there again, and all links of the WEAVE");
        RingWeaves x = Checks.laid(Checks.MESH, 12, 12);
        for (int ring = 0; ring < 144; ring++) {
            x.take(ring);
        }
        CHECKS.dueCount(x, 0, 0);
        CHECKS.dueCount(x, 2, 0);
        CHECKS.due("mend()", x.mend(), 144);
        CHECKS.dueCount(x, 0, 144);
        CHECKS.dueCount(x, 1, 264);
        CHECKS.dueCount(x, 2, 1);
        CHECKS.dueCount(x, 3, 100);
        CHECKS.dueCount(x, 12, 0);
        CHECKS.due("over(0, 1)", x.over(0, 1), 1);
        CHECKS.due("over(0, 12)", x.over(0, 12), -1);
        CHECKS.due("over(142, 143)", x.over(142, 143), 1);
        CHECKS.due("mend()", x.mend(), 0);
    }

    private static void mendFirstAndLast() {
        CHECKS.sentence("MENDED: all of these are there again (the first and the last)");
        RingWeaves x = Checks.laid("ring a;ring b;link a b 0 0 under;link b a 1 0 over;", 1, 12);
        for (int i = 0; i < 276; i++) {
            x.add();
        }
        CHECKS.dueCount(x, 8, 300);
        x.link(299, 23);
        x.take(0);
        x.take(23);
        CHECKS.dueCount(x, 12, 2);
        CHECKS.due("mend()", x.mend(), 2);
        CHECKS.dueLook(x, 0, 0, 1);
        CHECKS.dueLook(x, 23, 0, 1);
        CHECKS.due("over(0, 1)", x.over(0, 1), -1);
        CHECKS.due("over(22, 23)", x.over(22, 23), -1);
        CHECKS.due("over(299, 23)", x.over(299, 23), 0);
        CHECKS.dueCount(x, 1, 12);
    }

    private static void mendAsTold() {
        CHECKS.sentence("all links of the WEAVE that any of them has .. (so as the WEAVE tells)");
        RingWeaves x = Checks.laid(Checks.CHAIN, 4, 1);
        x.unlink(0, 1);
        x.link(1, 0);
        x.unlink(1, 2);
        x.take(1);
        CHECKS.due("mend()", x.mend(), 1);
        CHECKS.due("over(0, 1), turned before", x.over(0, 1), 1);
        CHECKS.due("over(1, 2), unlinked before", x.over(1, 2), 1);
        CHECKS.dueCount(x, 3, 2);
        x.take(1);
        x.take(2);
        CHECKS.due("mend() of two that are linked", x.mend(), 2);
        CHECKS.due("over(1, 2)", x.over(1, 2), 1);
        CHECKS.dueCount(x, 1, 3);
    }

    private static void mendLeavesOthers() {
        CHECKS.sentence("others as they are");
        RingWeaves x = Checks.laid(Checks.CHAIN, 8, 1);
        x.add();
        x.link(8, 7);
        x.link(8, 0);
        x.link(0, 5);
        x.link(0, 7);
        x.unlink(1, 2);
        x.link(2, 1);
        x.unlink(3, 4);
        x.take(7);
        CHECKS.due("mend()", x.mend(), 1);
        CHECKS.due("over(2, 1) stays turned", x.over(2, 1), 1);
        CHECKS.due("over(3, 4) stays unlinked", x.over(3, 4), 0);
        CHECKS.due("over(0, 5) stays", x.over(0, 5), 1);
        CHECKS.due("over(8, 0) stays", x.over(8, 0), 1);
        CHECKS.due("over(0, 7) went with 7", x.over(0, 7), 0);
        CHECKS.due("over(8, 7) went with 7", x.over(8, 7), 0);
        CHECKS.due("over(6, 7) is back", x.over(6, 7), 1);
        CHECKS.dueCount(x, 1, 8);
    }
}
