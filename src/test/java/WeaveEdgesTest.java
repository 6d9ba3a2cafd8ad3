/** Promises 1 to 3 and the document's section 1 (WEAVES): each sentence that names a boundary, one function each. */
public final class WeaveEdgesTest {
    private static final int CANT_STAND = 1;
    private static final int NOT_TOLD = 2;
    private static final int TOLD_BEFORE = 3;
    private static final int ABOVE_NINE = 4;
    private static final int ONE_TOO_MANY = 5;
    private static final int NO_SUCH_LINK = 6;
    private static final String FOUR = "ring a;ring b;ring c;ring d;";

    private static final Checks CHECKS = new Checks();

    public static void main(String[] args) {
        newObject();
        feedTakesBytesInOrder();
        signsOfTheTape();
        tapeIsFull();
        tapeFillsWithinOneFeed();
        whatReadsTakes();
        tokensAsLongAsCanBe();
        blanksWhereOneLikes();
        wordsOfOneToEight();
        lettersFromAToZ();
        numbersOfOneToFour();
        letterRightBehindANumber();
        signsThatAreNone();
        oneRingOrMore();
        anyNumberOfLinks();
        awaysFromNoneToNine();
        namesAreOtherWords();
        fourRingsAtMost();
        namesOfTheirOwn();
        toldNames();
        notWithItself();
        noTwoAlike();
        linksAtMost();
        theEndIsAToken();
        endOfAFullTape();
        firstFromTheLeft();
        leastOfOneToken();
        oneInHandStays();
        sheetsStay();
        CHECKS.finish();
    }

    private static void newObject() {
        CHECKS.sentence("No WEAVE, no RING; wire 100, within 400.");
        RingWeaves x = new RingWeaves();
        CHECKS.dueCount(x, 9, 0);
        CHECKS.dueCount(x, 10, 0);
        CHECKS.due("lay(1, 1)", x.lay(1, 1), -1);
        CHECKS.dueCount(x, 0, 0);
        CHECKS.dueCount(x, 8, 0);
        CHECKS.dueLookThrows(x, 0, 0);
        CHECKS.due("add() is the first ring", x.add(), 0);
        CHECKS.dueCount(x, 6, 1570);
        CHECKS.dueCount(x, 7, 125);
    }

    private static void feedTakesBytesInOrder() {
        CHECKS.sentence("Up to 24 signs come behind the TAPE: the bytes of a, b, c, of each the highest first");
        RingWeaves x = new RingWeaves();
        CHECKS.due("feed of none", x.feed(0, 0, 0), 0);
        CHECKS.due("feed of 24", x.feed(0x72696e672020610aL, 0x3b72696e670a2062L, 0x2020203b20202020L), 24);
        CHECKS.due("weave()", x.weave(), 0);
        CHECKS.dueCount(x, 9, 2);
        CHECKS.due("one in each long", x.feed(0x72L, 0x69000000L, 0x6e00000000000000L), 3);
        CHECKS.due("behind it", x.feed(0x67206b3b00000000L, -1L, Long.MIN_VALUE), 7);
        CHECKS.due("weave() of 'ring k;'", x.weave(), 0);
        CHECKS.dueCount(x, 9, 1);
    }

    private static void signsOfTheTape() {
        CHECKS.sentence("others than 10 and 32 .. 126 .. are left out: how many there are");
        int[] out = {0, 9, 11, 13, 31, 127, 128, 138, 160, 254, 255};
        int[] in = {10, 32, 33, 125, 126};
        for (int place = 0; place < 24; place++) {
            for (int sign : out) {
                CHECKS.due("feed of " + sign + " at " + place, feedOne(new RingWeaves(), sign, place), 0);
            }
            for (int sign : in) {
                CHECKS.due("feed of " + sign + " at " + place, feedOne(new RingWeaves(), sign, place), 1);
            }
        }
        // What is left out leaves no gap: the word goes on behind it.
        CHECKS.dueFault("ring\ta;", CANT_STAND, 0);
        CHECKS.dueWeave("ri\tng\r a\t;", 0);
    }

    private static int feedOne(RingWeaves x, int sign, int place) {
        long part = (long) sign << 8 * (7 - place % 8);
        return x.feed(place < 8 ? part : 0, place >= 8 && place < 16 ? part : 0, place >= 16 ? part : 0);
    }

    private static void tapeIsFull() {
        CHECKS.sentence("The TAPE has at most 1,000 signs .. what is beyond 1,000 .. left out: how many there are");
        RingWeaves x = new RingWeaves();
        CHECKS.due("984", Checks.feed(x, " ".repeat(984)), 984);
        CHECKS.due("999", Checks.feed(x, " ".repeat(15)), 999);
        CHECKS.dueCount(x, 11, 999);
        CHECKS.due("one byte that is left out", x.feed(127, 0, 0), 999);
        CHECKS.due("the last", x.feed(32, 0, 0), 1000);
        CHECKS.due("one beyond", x.feed(32, 0, 0), 1000);
        CHECKS.due("24 beyond", Checks.feed(x, "ring a;ring b;ring c;   "), 1000);
        CHECKS.dueCount(x, 11, 1000);
        CHECKS.due("weave() of blanks alone", x.weave(), CANT_STAND + 16 * 1000);
    }

    private static void tapeFillsWithinOneFeed() {
        CHECKS.sentence("what is beyond 1,000 .. left out");
        RingWeaves x = new RingWeaves();
        Checks.feed(x, " ".repeat(984));
        CHECKS.due("24 where 16 fit", Checks.feed(x, "ring a;ring b;  ring c;!"), 1000);
        CHECKS.due("weave()", x.weave(), 0);
        CHECKS.dueCount(x, 9, 2);
    }

    private static void whatReadsTakes() {
        CHECKS.sentence("what reads it takes it: it is empty then");
        RingWeaves x = new RingWeaves();
        Checks.feed(x, "ring a;");
        CHECKS.due("weave()", x.weave(), 0);
        CHECKS.dueCount(x, 11, 0);
        CHECKS.due("weave() of the empty tape", x.weave(), CANT_STAND);
        Checks.feed(x, "? ring a;");
        CHECKS.due("weave() with a fault at once", x.weave(), CANT_STAND);
        CHECKS.dueCount(x, 11, 0);
        CHECKS.due("feed", Checks.feed(x, "ring b;"), 7);
        CHECKS.due("weave()", x.weave(), 0);
        x.lay(1, 1);
        CHECKS.due("feed", Checks.feed(x, "ring"), 4);
        x.lay(1, 1);
        CHECKS.dueCount(x, 11, 4);
    }

    private static void tokensAsLongAsCanBe() {
        CHECKS.sentence("TOKENS, each as long as can be");
        CHECKS.dueFault("ringa;", CANT_STAND, 0);
        CHECKS.dueFault("ring a;link aa 1 0 over;", NOT_TOLD, 12);
        CHECKS.dueFault("ring a;link a a 12 over;", ABOVE_NINE, 16);
        CHECKS.dueFault("ring a;link a a 1 0 overlink", CANT_STAND, 20);
        CHECKS.dueFault("ring a;linka a 1 0 over;", CANT_STAND, 7);
        CHECKS.dueWeave("ring a;ring aa;link a aa 0 0 over;", 0);
    }

    private static void blanksWhereOneLikes() {
        CHECKS.sentence("blanks (10, 32) between where one likes");
        CHECKS.dueWeave("ring a;link a a+1-2over;link a a-3+4under;", 0);
        CHECKS.dueWeave("ring a;link a a1 2over;", 0);
        CHECKS.dueWeave("\n\n ring\na\n;\n\nlink\na\na\n+\n1\n-\n2\nover\n;\n", 0);
        CHECKS.dueWeave("  ring  a  ;  link  a  a  +  1  -  2  over  ;  ", 0);
        CHECKS.dueFault("ring a;link a a 1 2 o ver;", CANT_STAND, 20);
        CHECKS.dueFault("ri ng a;", CANT_STAND, 0);
    }

    private static void wordsOfOneToEight() {
        CHECKS.sentence("WORDS (letters a .. z, 1 to 8) .. a longer WORD .. at its first sign .. is none");
        CHECKS.dueWeave("ring a;ring abcdefgh;link a abcdefgh 0 0 over;", 0);
        CHECKS.dueFault("ring  abcdefghi;", CANT_STAND, 6);
        CHECKS.dueFault("ring aaaaaaaaaaaaaaaaaaaaaaaaaaaaaaaaaaaaa;", CANT_STAND, 5);
        // Nine letters are none, though eight of them be a name that is told.
        CHECKS.dueFault("ring bcdefghi;link abcdefghi bcdefghi 1 0 over;", CANT_STAND, 19);
        CHECKS.dueFault("ring abcdefgh;link abcdefgh abcdefghi 1 0 over;", CANT_STAND, 28);
        CHECKS.dueFault("ring bcdefghi;ring abcdefghi;", CANT_STAND, 19);
        CHECKS.dueFault("ring a;link a a 1 0 overovero;", CANT_STAND, 20);
        CHECKS.dueFault("xxxxxring a;", CANT_STAND, 0);
    }

    private static void lettersFromAToZ() {
        CHECKS.sentence("WORDS (letters a .. z");
        CHECKS.dueWeave("ring a;ring z;ring az;ring za;", 0);
        for (char sign : "`{@[AZ".toCharArray()) {
            CHECKS.dueFault("ring " + sign + ";", CANT_STAND, 5);
            CHECKS.dueFault("ring a" + sign + ";", CANT_STAND, 6);
        }
    }

    private static void numbersOfOneToFour() {
        CHECKS.sentence("NUMBERS (1 to 4 digits .. a longer .. NUMBER .. at its first sign .. is none");
        CHECKS.dueWeave("ring a;link a a 9 09 over;", 0);
        CHECKS.dueWeave("ring a;link a a 009 0009 over;", 0);
        CHECKS.dueFault("ring a;link a a 00009 0 over;", CANT_STAND, 16);
        CHECKS.dueFault("ring a;link a a 1 -00000 over;", CANT_STAND, 19);
        CHECKS.dueFault("ring a;link a a 9999 0 over;", ABOVE_NINE, 16);
        CHECKS.dueFault("ring a;link a a 99999 0 over;", CANT_STAND, 16);
        CHECKS.dueFault("ring a;link a a 1 0000000000000000000001 over;", CANT_STAND, 18);
        // Too long, and the number of a sign: of +, of -, of the semicolon.
        CHECKS.dueFault("ring a;link a a 00043 1 0 over;", CANT_STAND, 16);
        CHECKS.dueFault("ring a;link a a 1 00045 1 over;", CANT_STAND, 18);
        CHECKS.dueFault("ring a 00059", CANT_STAND, 7);
        for (char sign : "/:".toCharArray()) {
            CHECKS.dueFault("ring a;link a a " + sign + " 0 over;", CANT_STAND, 16);
            CHECKS.dueFault("ring a;link a a 1" + sign + " 0 over;", CANT_STAND, 17);
        }
    }

    private static void letterRightBehindANumber() {
        CHECKS.sentence("a letter may stand right behind");
        CHECKS.dueWeave("ring a;link a a 1 0over;", 0);
        CHECKS.dueWeave("ring a;link a a 1 0009under;", 0);
        CHECKS.dueFault("ring a;link a a 1 10over;", ABOVE_NINE, 18);
        CHECKS.dueFault("ring a;link a a 1 00001over;", CANT_STAND, 18);
        CHECKS.dueFault("ring a;link a a 1 0overunder;", CANT_STAND, 19);
        CHECKS.dueFault("ring a;link a a 1 0x;", CANT_STAND, 19);
    }

    private static void signsThatAreNone() {
        CHECKS.sentence("the signs + - and the semicolon. All else .. is none");
        for (char sign = 33; sign <= 126; sign++) {
            if (sign != ';' && (sign < 'a' || sign > 'z')) {
                CHECKS.dueFault("ring a" + sign, CANT_STAND, 6);
            }
            boolean mayStand = sign == '+' || sign == '-' || sign >= '0' && sign <= '9';
            if (!mayStand && (sign < 'a' || sign > 'z')) {
                CHECKS.dueFault("ring a;link a a" + sign + "1 0 over;", CANT_STAND, 15);
            }
            CHECKS.dueFault("ring a;" + sign, CANT_STAND, 7);
        }
    }

    private static void oneRingOrMore() {
        CHECKS.sentence("WEAVE: one or more  ring NAME ;  .. (At the end ahead of any RING: 1.)");
        CHECKS.dueFault("", CANT_STAND, 0);
        CHECKS.dueFault(" ", CANT_STAND, 1);
        CHECKS.dueFault("\n \n", CANT_STAND, 3);
        CHECKS.dueFault("link a a 1 0 over;", CANT_STAND, 0);
        CHECKS.dueFault(" ;", CANT_STAND, 1);
        CHECKS.dueFault("under", CANT_STAND, 0);
        CHECKS.dueFault("7", CANT_STAND, 0);
        String[] texts = {"ring a;", "ring a;ring b;", "ring a;ring b;ring c;", FOUR};
        for (int i = 0; i < texts.length; i++) {
            RingWeaves x = new RingWeaves();
            Checks.feed(x, texts[i]);
            CHECKS.due("weave() of " + texts[i], x.weave(), 0);
            CHECKS.dueCount(x, 9, i + 1);
            CHECKS.dueCount(x, 10, 0);
        }
    }

    private static void anyNumberOfLinks() {
        CHECKS.sentence("then any number of  link NAME NAME AWAY AWAY over ;  or  .. under ;");
        int[] links = {0, 1, 2, 23, 24};
        for (int n : links) {
            RingWeaves x = new RingWeaves();
            Checks.feed(x, withLinks(n));
            CHECKS.due("weave() with " + n + " links", x.weave(), 0);
            CHECKS.dueCount(x, 10, n);
        }
        CHECKS.dueFault(withLinks(1) + "ring b;", CANT_STAND, withLinks(1).length());
        CHECKS.dueFault("ring a;link a a 1 0 over;;", CANT_STAND, 25);
        CHECKS.dueFault("ring a;link a a 1 0 over under;", CANT_STAND, 25);
        CHECKS.dueFault("ring a;link a a 1 0;", CANT_STAND, 19);
    }

    /** Each link another away; n up to 25. */
    private static String withLinks(int n) {
        StringBuilder text = new StringBuilder("ring a;");
        for (int i = 1; i <= n; i++) {
            text.append("link a a ").append(i % 10).append(' ').append(i / 10);
            text.append(i % 3 == 0 ? " over;" : " under;");
        }
        return text.toString();
    }

    private static void awaysFromNoneToNine() {
        CHECKS.sentence("AWAY: N, + N, - N (0 to 9 each) .. 4 a NUMBER above 9");
        String[] signs = {"", "+", "-", "+ ", "- "};
        for (String sign : signs) {
            int place = 16 + sign.length();
            CHECKS.dueWeave("ring a;link a a " + sign + "9 1 over;", 0);
            CHECKS.dueWeave("ring a;link a a " + sign + "0 1 over;", 0);
            CHECKS.dueWeave("ring a;link a a 1 " + sign + "9 over;", 0);
            CHECKS.dueWeave("ring a;link a a 1 " + sign + "0 over;", 0);
            CHECKS.dueFault("ring a;link a a " + sign + "10 1 over;", ABOVE_NINE, place);
            CHECKS.dueFault("ring a;link a a 1 " + sign + "10 over;", ABOVE_NINE, place + 2);
            CHECKS.dueFault("ring a;link a a 1 " + sign + "0010over;", ABOVE_NINE, place + 2);
        }
        CHECKS.dueFault("ring a;link a a +-1 0 over;", CANT_STAND, 17);
        CHECKS.dueFault("ring a;link a a --1 0 over;", CANT_STAND, 17);
        CHECKS.dueFault("ring a;link a a 1+ over;", CANT_STAND, 19);
        CHECKS.dueFault("ring a;link a a 1 0 0 over;", CANT_STAND, 20);
        CHECKS.dueFault("ring a;link a a 1 over;", CANT_STAND, 18);
    }

    private static void namesAreOtherWords() {
        CHECKS.sentence("A NAME is another WORD than: ring link over under.");
        for (String word : new String[] {"ring", "link", "over", "under"}) {
            CHECKS.dueFault("ring " + word + ";", CANT_STAND, 5);
            CHECKS.dueFault("ring a;ring " + word + ";", CANT_STAND, 12);
            CHECKS.dueFault("ring a;link " + word + " a 1 0 over;", CANT_STAND, 12);
            CHECKS.dueFault("ring a;link a " + word + " 1 0 over;", CANT_STAND, 14);
            CHECKS.dueWeave("ring " + word + "s;", 0);
            CHECKS.dueWeave("ring " + word.substring(1) + ";", 0);
            CHECKS.dueWeave("ring s" + word + ";", 0);
            CHECKS.dueWeave("ring " + word.substring(0, 3) + ";", 0);
        }
        CHECKS.dueFault("ring 1;", CANT_STAND, 5);
        CHECKS.dueFault("ring ;", CANT_STAND, 5);
    }

    private static void fourRingsAtMost() {
        CHECKS.sentence("RINGS of the cell, 4 at most .. 5 one too many: the words ring, link");
        CHECKS.dueWeave(FOUR, 0);
        CHECKS.dueWeave(FOUR + "link a d 0 0 over;", 0);
        CHECKS.dueFault(FOUR + "ring e;", ONE_TOO_MANY, 28);
        CHECKS.dueFault(FOUR + " ring", ONE_TOO_MANY, 29);
        CHECKS.dueFault(FOUR + "ring a;", ONE_TOO_MANY, 28);
        CHECKS.dueFault(FOUR + "ring ring", ONE_TOO_MANY, 28);
        CHECKS.dueFault(FOUR + "ring e;ring f;", ONE_TOO_MANY, 28);
    }

    private static void namesOfTheirOwn() {
        CHECKS.sentence("have NAMES of their own .. 3 a RING's NAME that is");
        CHECKS.dueFault("ring a;ring a;", TOLD_BEFORE, 12);
        CHECKS.dueFault("ring a;ring b;ring c;ring a;", TOLD_BEFORE, 26);
        CHECKS.dueFault("ring a;ring b;ring c;ring c;", TOLD_BEFORE, 26);
        CHECKS.dueFault("ring a;ring a", TOLD_BEFORE, 12);
        CHECKS.dueFault("ring abcdefgh;ring abcdefgh;", TOLD_BEFORE, 19);
        CHECKS.dueWeave("ring abcdefgh;ring bbcdefgh;ring abcdefgg;ring abcdefg;", 0);
        CHECKS.dueWeave("ring a;ring aa;ring aaa;ring aaaaaaaa;", 0);
        // A name of an earlier text is free again.
        RingWeaves x = Checks.withWeave("ring a;ring b;");
        Checks.feed(x, "ring b;ring a;");
        CHECKS.due("weave()", x.weave(), 0);
    }

    private static void toldNames() {
        CHECKS.sentence("2 a NAME that is not told");
        CHECKS.dueFault("ring a;link b a 1 0 over;", NOT_TOLD, 12);
        CHECKS.dueFault("ring a;link a b 1 0 over;", NOT_TOLD, 14);
        CHECKS.dueFault("ring a;link a b", NOT_TOLD, 14);
        CHECKS.dueFault("ring abcdefgh;link bbcdefgh abcdefgh 1 0 over;", NOT_TOLD, 19);
        CHECKS.dueFault("ring abcdefgh;link abcdefgh abcdefgg 1 0 over;", NOT_TOLD, 28);
        // A name of an earlier text is not told in this one.
        RingWeaves x = Checks.withWeave("ring a;ring b;");
        Checks.feed(x, "ring a;link a b 0 0 over;");
        CHECKS.due("weave()", x.weave(), NOT_TOLD + 16 * 14);
    }

    private static void notWithItself() {
        CHECKS.sentence("A RING is not linked with itself in its own cell .. 6 the word over or under");
        CHECKS.dueFault("ring a;link a a 0 0 over;", NO_SUCH_LINK, 20);
        CHECKS.dueFault("ring a;link a a 0 0 under;", NO_SUCH_LINK, 20);
        CHECKS.dueFault("ring a;link a a -0 +0000 over;", NO_SUCH_LINK, 25);
        CHECKS.dueFault("ring a;ring b;link b b 0 0 over;", NO_SUCH_LINK, 27);
        CHECKS.dueWeave("ring a;link a a 0 1 over;link a a 1 0 over;", 0);
        CHECKS.dueWeave("ring a;ring b;link a b 0 0 over;", 0);
    }

    private static void noTwoAlike() {
        CHECKS.sentence("no two links tell the same two RINGS at the same AWAY .. (told from either one)");
        String two = "ring a;ring b;link a b 1 -2 over;";
        CHECKS.dueFault(two + "link a b 1 -2 over;", NO_SUCH_LINK, 47);
        CHECKS.dueFault(two + "link a b 1 -2 under;", NO_SUCH_LINK, 47);
        CHECKS.dueFault(two + "link b a -1 2 over;", NO_SUCH_LINK, 47);
        CHECKS.dueFault(two + "link b a -1 2 under;", NO_SUCH_LINK, 47);
        CHECKS.dueWeave(two + "link b a 1 -2 over;link a b -1 2 over;", NO_SUCH_LINK + 16 * 66);
        CHECKS.dueWeave(two + "link a b 1 2 over;link a b -1 -2 over;link a b 1 -3 over;link a b 2 -2 over;", 0);
        CHECKS.dueWeave(two + "link b a 1 -2 over;link b a -1 -2 over;link b a 1 2 over;", 0);
        CHECKS.dueWeave(two + "link a a 1 -2 over;link b b 1 -2 over;", 0);
        CHECKS.dueFault("ring a;link a a 9 0 over;link a a -9 -0 under;", NO_SUCH_LINK, 40);
        CHECKS.dueWeave("ring a;link a a 9 9 over;link a a -9 9 under;", 0);
        CHECKS.dueFault("ring a;ring b;link b a 0 0 over;link a b 0 0 over;", NO_SUCH_LINK, 45);
        // The first and the last of many.
        String most = withLinks(23);
        CHECKS.dueFault(most + "link a a -1 0 over;", NO_SUCH_LINK, most.length() + 14);
        CHECKS.dueFault(most + "link a a -3 -2 over;", NO_SUCH_LINK, most.length() + 15);
    }

    private static void linksAtMost() {
        CHECKS.sentence("24 links at most. .. 5 one too many: the words ring, link");
        String most = withLinks(24);
        CHECKS.dueWeave(most, 0);
        CHECKS.dueFault(withLinks(25), ONE_TOO_MANY, most.length());
        CHECKS.dueFault(most + "\nlink", ONE_TOO_MANY, most.length() + 1);
        CHECKS.dueFault(most + "link a a 1 0 over;", ONE_TOO_MANY, most.length());
        CHECKS.dueFault(most + "link b ?", ONE_TOO_MANY, most.length());
    }

    private static void theEndIsAToken() {
        CHECKS.sentence("the end being one at the text's length");
        String text = "ring a;link a a + 1 - 2 over;";
        int[] cuts = {4, 6, 11, 13, 15, 17, 19, 21, 23, 28};
        for (int cut : cuts) {
            CHECKS.dueFault(text.substring(0, cut), CANT_STAND, cut);
            CHECKS.dueFault(text.substring(0, cut) + " ", CANT_STAND, cut + 1);
            CHECKS.dueFault("\n" + text.substring(0, cut) + " \n ", CANT_STAND, cut + 4);
        }
        CHECKS.dueWeave(text.substring(0, 7), 0);
        CHECKS.dueWeave(text, 0);
    }

    private static void endOfAFullTape() {
        CHECKS.sentence("the end being one at the text's length .. at most 1,000 signs");
        CHECKS.dueFault("ring a" + " ".repeat(994), CANT_STAND, 1000);
        CHECKS.dueFault(" ".repeat(996) + "ring", CANT_STAND, 1000);
        CHECKS.dueFault(" ".repeat(999) + ";", CANT_STAND, 999);
        CHECKS.dueWeave("ring a;" + "\n".repeat(993), 0);
        CHECKS.dueWeave(" ".repeat(993) + "ring a;", 0);
        CHECKS.dueFault("ring a;" + " ".repeat(981) + "link a a 109", ABOVE_NINE, 997);
        CHECKS.dueFault("ring a;" + " ".repeat(981) + "link a a 1 9", CANT_STAND, 1000);
        CHECKS.dueFault("ring " + "a".repeat(995), CANT_STAND, 5);
        CHECKS.dueFault("ring a;link a a " + "0".repeat(984), CANT_STAND, 16);
    }

    private static void firstFromTheLeft() {
        CHECKS.sentence("of the first token from the left that is wrong");
        CHECKS.dueFault("ring a;ring a ?", TOLD_BEFORE, 12);
        CHECKS.dueFault("ring a;link b c 10 10 by", NOT_TOLD, 12);
        CHECKS.dueFault("ring a;link a c 10 10 by", NOT_TOLD, 14);
        CHECKS.dueFault("ring a;link a a 10 11 by", ABOVE_NINE, 16);
        CHECKS.dueFault("ring a;link a a 0 11 by", ABOVE_NINE, 18);
        CHECKS.dueFault("ring a;link a a 0 0 by", CANT_STAND, 20);
        CHECKS.dueFault("ring a;link a a 0 0 over ring", NO_SUCH_LINK, 20);
        CHECKS.dueFault("ring a;link a a 1 0 over ring", CANT_STAND, 25);
        CHECKS.dueFault("ring A;ring b;ring b;", CANT_STAND, 5);
    }

    private static void leastOfOneToken() {
        CHECKS.sentence("the first token from the left that is wrong the least: 1 it is none, or can't stand there");
        // Too many and out of place: the word ring behind links.
        CHECKS.dueFault(FOUR + "link a b 0 0 over;ring e;", CANT_STAND, 46);
        CHECKS.dueFault(withLinks(24) + "ring b;", CANT_STAND, withLinks(24).length());
        CHECKS.dueFault(withLinks(24) + "over", CANT_STAND, withLinks(24).length());
        // Above 9 and out of place, or none.
        CHECKS.dueFault("ring 10;", CANT_STAND, 5);
        CHECKS.dueFault("ring a;10", CANT_STAND, 7);
        CHECKS.dueFault("ring a;link a a 10000 0 over;", CANT_STAND, 16);
        // A name told or not told, where none can stand.
        CHECKS.dueFault("ring a;a", CANT_STAND, 7);
        CHECKS.dueFault("ring a;b", CANT_STAND, 7);
        CHECKS.dueFault("ring a;link a a b 0 over;", CANT_STAND, 16);
        // Over, of a link that can't be, where it can't stand.
        CHECKS.dueFault("ring a;link a a 0 over;", CANT_STAND, 18);
    }

    private static void oneInHandStays() {
        CHECKS.sentence("0, or its FAULT (the one in hand stays then)");
        RingWeaves x = new RingWeaves();
        Checks.feed(x, "ring a;link a a 1 0 over;link a a 0 1 over");
        CHECKS.due("weave() with none in hand", x.weave(), CANT_STAND + 16 * 42);
        CHECKS.dueCount(x, 9, 0);
        CHECKS.dueCount(x, 10, 0);
        CHECKS.due("lay(1, 1)", x.lay(1, 1), -1);
        Checks.feed(x, "ring a;ring b;link a b 0 0 under;");
        CHECKS.due("weave()", x.weave(), 0);
        String[] faulty = {"", "?", "ring c;?", FOUR + "ring",
            "ring c;ring d;ring e;link c d 0 0 over;link c e 0 0 over;?"};
        for (String text : faulty) {
            Checks.feed(x, text);
            CHECKS.due("a fault in '" + text + "'", x.weave() != 0, true);
            CHECKS.dueCount(x, 9, 2);
            CHECKS.dueCount(x, 10, 1);
            CHECKS.due("lay(1, 1)", x.lay(1, 1), 2);
            CHECKS.due("over(0, 1)", x.over(0, 1), -1);
        }
        Checks.feed(x, "ring k;");
        CHECKS.due("weave()", x.weave(), 0);
        CHECKS.dueCount(x, 9, 1);
        CHECKS.dueCount(x, 10, 0);
    }

    private static void sheetsStay() {
        CHECKS.sentence("Sheets that are there stay as they are, but FULL and MENDED are by the WEAVE by which ..");
        RingWeaves x = Checks.laid(Checks.MESH, 3, 3);
        x.add();
        x.link(9, 0);
        x.take(8);
        // Two more: what is read must not be written over the weave of the sheet.
        String[] later = {"ring a;ring b;link a b 0 0 over;", "ring a;ring b;ring c;link a c 1 1 under;", "ring a;?"};
        for (String text : later) {
            Checks.feed(x, text);
            x.weave();
            CHECKS.dueCount(x, 0, 9);
            CHECKS.dueCount(x, 1, 11);
            CHECKS.dueCount(x, 3, 1);
            CHECKS.dueCount(x, 12, 1);
            CHECKS.due("at(2, 2, 0)", x.at(2, 2, 0), 8);
            CHECKS.due("at(0, 0, 1)", x.at(0, 0, 1), -1);
        }
        CHECKS.due("mend()", x.mend(), 1);
        CHECKS.due("over(7, 8)", x.over(7, 8), 1);
        CHECKS.due("over(5, 8)", x.over(5, 8), -1);
        CHECKS.dueCount(x, 1, 13);
        CHECKS.dueLooks(x, 2, 0, 0, 0, 0, 1, 0, 0, 0, 0);
        CHECKS.dueCount(x, 9, 3);
        CHECKS.due("lay(1, 1)", x.lay(1, 1), 3);
    }
}
