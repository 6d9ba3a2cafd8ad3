/** Promise 3. */
public final class WeaveTest {
    private static final int CANT_STAND = 1;
    private static final int NOT_TOLD = 2;
    private static final int TOLD_BEFORE = 3;
    private static final int ABOVE_NINE = 4;
    private static final int ONE_TOO_MANY = 5;
    private static final int NO_SUCH_LINK = 6;

    public static void main(String[] args) {
        Checks checks = new Checks();
        goodOnes(checks);
        tokens(checks);
        placesOfTokens(checks);
        names(checks);
        aways(checks);
        tooMany(checks);
        signsOfEarlierTapes(checks);
        sameLinks(checks);
        whatStays(checks);
        checks.finish();
    }

    private static void goodOnes(Checks checks) {
        checks.dueWeave("ring a;", 0);
        checks.dueWeave("ring a;ring b;ring c;ring d;", 0);
        checks.dueWeave("  ring\na\n;\n link a\na 1 0 over; ", 0);
        checks.dueWeave("ring a;link a a+9-9under;", 0);
        checks.dueWeave("ring a;link a a 0009 - 0001 over;", 0);
        checks.dueWeave("ring a;link a a 1 0over;", 0);
        checks.dueWeave("ring a;ring b;link a b 0 0 over;link a b 1 0 over;link b a 1 0 under;", 0);
        RingWeaves x = Checks.withWeave("ring abcdefgh;ring b;link b abcdefgh 0 0 over;");
        checks.due("count(9)", x.count(9), 2);
        checks.due("count(10)", x.count(10), 1);
    }

    private static void tokens(Checks checks) {
        checks.dueFault("ring abcdefghi;", CANT_STAND, 5);
        checks.dueFault("ringa;", CANT_STAND, 0);
        checks.dueFault("ring A;", CANT_STAND, 5);
        checks.dueFault("ring aB;", CANT_STAND, 6);
        checks.dueFault("ring a1;", CANT_STAND, 6);
        checks.dueFault("ring a,", CANT_STAND, 6);
        checks.dueFault("ring {;", CANT_STAND, 5);
        checks.dueFault("ring `;", CANT_STAND, 5);
        checks.dueFault("ring a;link a a 00001 0 over;", CANT_STAND, 16);
        checks.dueFault("ring a;link a a : 0 over;", CANT_STAND, 16);
        checks.dueFault("ring a;link a a / 0 over;", CANT_STAND, 16);
        checks.dueFault("ring a;link a a 1 0 overunder;", CANT_STAND, 20);
        checks.dueFault("ring a;link a a 1 0 ove;", CANT_STAND, 20);
        checks.dueFault("ring a;;", CANT_STAND, 7);
        checks.dueFault("ring a; # ", CANT_STAND, 8);
        checks.dueWeave("ring az;ring zzzzzzzz;link az zzzzzzzz 0 0 under;", 0);
        // What is told apart only beyond the eighth letter is no word at all.
        checks.dueFault("ring xxxxxring;", CANT_STAND, 5);
        checks.dueWeave("ring aring;ring xxxxlink;", 0);
    }

    private static void placesOfTokens(Checks checks) {
        String text = "ring a;link a a+1-0over;";
        int[] starts = {0, 5, 6, 7, 12, 14, 15, 16, 17, 18, 19, 23};
        for (int i = 0; i < starts.length; i++) {
            checks.dueFault(text.substring(0, starts[i]) + "?", CANT_STAND, starts[i]);
            if (starts[i] != 7) {
                checks.dueFault(text.substring(0, starts[i]), CANT_STAND, starts[i]);
                checks.dueFault(text.substring(0, starts[i]) + "\n  ", CANT_STAND, starts[i] + 3);
            }
        }
        checks.dueFault("", CANT_STAND, 0);
        checks.dueFault("   ", CANT_STAND, 3);
        checks.dueFault("link a a 1 0 over;", CANT_STAND, 0);
        checks.dueFault(";", CANT_STAND, 0);
        checks.dueFault("over", CANT_STAND, 0);
        checks.dueFault("ring a;link a a + + 1 0 over;", CANT_STAND, 18);
        checks.dueFault("ring a;link a a + over;", CANT_STAND, 18);
        checks.dueFault("ring a;link a a 1 over;", CANT_STAND, 18);
        checks.dueFault("ring a;link a a 1 0 1 over;", CANT_STAND, 20);
        checks.dueFault("ring a;link a 1 0 over;", CANT_STAND, 14);
        checks.dueFault("ring a;link a a 1 0 over link", CANT_STAND, 25);
        checks.dueFault("ring a;link a a 1 0 over;ring b;", CANT_STAND, 25);
        checks.dueFault("ring a;b;", CANT_STAND, 7);
        checks.dueFault("ring a;link a a 1 0 over;b", CANT_STAND, 25);
    }

    private static void names(Checks checks) {
        String[] kept = {"ring", "link", "over", "under"};
        for (int i = 0; i < kept.length; i++) {
            checks.dueFault("ring " + kept[i] + ";", CANT_STAND, 5);
            checks.dueFault("ring a;link " + kept[i] + " a 1 0 over;", CANT_STAND, 12);
            checks.dueFault("ring a;link a " + kept[i] + " 1 0 over;", CANT_STAND, 14);
        }
        checks.dueFault("ring a;ring a;", TOLD_BEFORE, 12);
        checks.dueFault("ring a;ring b;ring c;ring b;", TOLD_BEFORE, 26);
        checks.dueFault("ring a;link b a 1 0 over;", NOT_TOLD, 12);
        checks.dueFault("ring a;link a b 1 0 over;", NOT_TOLD, 14);
        checks.dueFault("ring a;link aa a 1 0 over;", NOT_TOLD, 12);
    }

    private static void aways(Checks checks) {
        checks.dueFault("ring a;link a a 10 0 over;", ABOVE_NINE, 16);
        checks.dueFault("ring a;link a a - 10 0 over;", ABOVE_NINE, 18);
        checks.dueFault("ring a;link a a 0 +9999 over;", ABOVE_NINE, 19);
        checks.dueFault("ring a;link a a 0 0010over;", ABOVE_NINE, 18);
        // Columns come first, rows second; to the right and down, or the other way.
        RingWeaves x = Checks.laid("ring a;ring b;link a b +1 0 over;link a b 0 -1 under;", 2, 2);
        checks.due("over(0, 3)", x.over(0, 3), 1);
        checks.due("over(4, 7)", x.over(4, 7), 1);
        checks.due("over(4, 1)", x.over(4, 1), -1);
        checks.due("over(6, 3)", x.over(6, 3), -1);
        checks.due("count(1)", x.count(1), 4);
    }

    private static void tooMany(Checks checks) {
        checks.dueFault("ring a;ring b;ring c;ring d;ring e;", ONE_TOO_MANY, 28);
        checks.dueFault("ring a;ring b;ring c;ring d;ring ?", ONE_TOO_MANY, 28);
        StringBuilder text = new StringBuilder("ring a;");
        for (int i = 1; i <= 24; i++) {
            text.append("link a a ").append(i % 8).append(' ').append(i / 8).append(" over;");
        }
        checks.dueWeave(text.toString(), 0);
        RingWeaves x = new RingWeaves();
        Checks.feed(x, text.toString());
        checks.due("weave()", x.weave(), 0);
        checks.due("count(10)", x.count(10), 24);
        checks.dueFault(text + "link a a 9 9 over;", ONE_TOO_MANY, text.length());
        checks.dueFault(text + "link ?", ONE_TOO_MANY, text.length());
        // A ring behind links can't stand there, one too many or not: the least kind counts.
        checks.dueFault("ring a;ring b;ring c;ring d;link a b 0 0 over;ring e;", CANT_STAND, 46);
    }

    private static void signsOfEarlierTapes(Checks checks) {
        RingWeaves x = new RingWeaves();
        Checks.feed(x, "ring a;link a a 123456");
        checks.due("weave()", x.weave(), CANT_STAND + 16 * 16);
        Checks.feed(x, "ring a;link a a 1");
        checks.due("weave() ahead of digits that were taken", x.weave(), CANT_STAND + 16 * 17);
        Checks.feed(x, "ring abcdefghijk");
        x.weave();
        Checks.feed(x, "ring ab");
        checks.due("weave() ahead of letters that were taken", x.weave(), CANT_STAND + 16 * 7);
    }

    private static void sameLinks(Checks checks) {
        checks.dueFault("ring a;link a a 0 0 over;", NO_SUCH_LINK, 20);
        checks.dueFault("ring a;link a a -0 +0 under;", NO_SUCH_LINK, 22);
        checks.dueFault("ring a;link a a 0 0 by;", CANT_STAND, 20);
        checks.dueFault("ring a;link a a 1 2 over;link a a 1 2 under;", NO_SUCH_LINK, 38);
        checks.dueFault("ring a;link a a 1 2 over;link a a -1 -2 over;", NO_SUCH_LINK, 40);
        checks.dueWeave("ring a;link a a 1 2 over;link a a -1 2 over;", 0);
        checks.dueWeave("ring a;link a a 1 2 over;link a a 2 1 over;", 0);
        checks.dueFault("ring a;ring b;link a b 1 0 over;link b a -1 0 under;", NO_SUCH_LINK, 46);
        checks.dueFault("ring a;ring b;link a b 0 0 over;link b a 0 0 over;", NO_SUCH_LINK, 45);
        checks.dueWeave("ring a;ring b;link a b 1 0 over;link b a 1 0 over;", 0);
        checks.dueWeave("ring a;ring b;link a a 1 0 over;link b b 1 0 over;link a b 1 0 over;", 0);
        // The fault of an earlier link is found ahead of a later none.
        checks.dueFault("ring a;link a a 0 0 over ?", NO_SUCH_LINK, 20);
    }

    private static void whatStays(Checks checks) {
        RingWeaves x = Checks.laid(Checks.MESH, 3, 3);
        Checks.feed(x, "ring a;ring b;link a b 0 0 over;?");
        checks.due("weave() with a fault", x.weave(), 1 + 16 * 32);
        checks.due("count(11)", x.count(11), 0);
        checks.due("count(9)", x.count(9), 1);
        checks.due("count(10)", x.count(10), 2);
        checks.due("weave() of nothing", x.weave(), 1);
        checks.due("count(9)", x.count(9), 1);
        Checks.feed(x, "ring a;ring b;");
        checks.due("weave()", x.weave(), 0);
        checks.due("count(9)", x.count(9), 2);
        checks.due("count(10)", x.count(10), 0);
        sheetStays(checks, x);
        checks.due("lay(1, 2)", x.lay(1, 2), 4);
        checks.due("count(1)", x.count(1), 0);
        checks.due("at(0, 1, 1)", x.at(0, 1, 1), 3);
    }

    /** The sheet was laid out by the mesh; another weave is in hand. */
    private static void sheetStays(Checks checks, RingWeaves x) {
        checks.due("count(0)", x.count(0), 9);
        checks.due("count(1)", x.count(1), 12);
        checks.due("count(3)", x.count(3), 1);
        checks.dueLook(x, 4, 2, 1);
        checks.due("at(0, 0, 1)", x.at(0, 0, 1), -1);
        checks.due("at(2, 2, 0)", x.at(2, 2, 0), 8);
        checks.due("take(4)", x.take(4), 4);
        checks.due("mend()", x.mend(), 1);
        checks.due("over(4, 5)", x.over(4, 5), 1);
        checks.due("over(4, 7)", x.over(4, 7), -1);
        checks.dueLook(x, 4, 2, 1);
    }
}
