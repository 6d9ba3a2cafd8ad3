/** Promise 2. */
public final class FeedTest {
    public static void main(String[] args) {
        Checks checks = new Checks();
        whatStands(checks);
        orderOfBytes(checks);
        fullTape(checks);
        checks.finish();
    }

    private static void whatStands(Checks checks) {
        for (int sign = 0; sign < 256; sign++) {
            RingWeaves x = new RingWeaves();
            int want = sign == 10 || sign >= 32 && sign <= 126 ? 1 : 0;
            checks.due("feed of sign " + sign, x.feed((long) sign << 56, 0, 0), want);
            checks.due("feed of sign " + sign + " at the end", x.feed(0, 0, sign), 2 * want);
            checks.due("count(11)", x.count(11), 2 * want);
        }
        RingWeaves x = new RingWeaves();
        checks.due("feed of nothing", x.feed(0, 0, 0), 0);
        checks.due("feed(-1, -1, -1)", x.feed(-1, -1, -1), 0);
        checks.due("feed of 24", x.feed(0x2020202020202020L, 0x2020202020202020L, 0x0a0a0a0a0a0a0a0aL), 24);
    }

    private static void orderOfBytes(Checks checks) {
        RingWeaves x = new RingWeaves();
        x.feed(Checks.bytes("ring abc", 0), Checks.bytes("de;ring ", 0), Checks.bytes("abcde", 0));
        checks.due("weave()", x.weave(), 3 + 16 * 16);
        // Bytes that do not stand fall out from between the others.
        checks.due("feed", x.feed(0x7200696eff67200bL, 0x61007f80003b0000L, 0), 7);
        checks.due("weave()", x.weave(), 0);
        checks.due("count(9)", x.count(9), 1);
    }

    private static void fullTape(Checks checks) {
        RingWeaves x = new RingWeaves();
        Checks.feed(x, "ring a;");
        for (int i = 0; i < 41; i++) {
            int signs = x.feed(0x2020202020202020L, 0x2020202020202020L, 0x2020202020202020L);
            checks.due("feed of 24 more", signs, 7 + 24 * (i + 1));
        }
        checks.due("feed up to 1,000 and beyond", Checks.feed(x, "ring b;ring c;!!!!!!!!!!"), 1000);
        checks.due("feed to a full tape", Checks.feed(x, "ring"), 1000);
        checks.due("count(11)", x.count(11), 1000);
        // The tape holds 'ring a;', 984 blanks, then 'ring b;ri': a word that can't stand at 998.
        checks.due("weave()", x.weave(), 1 + 16 * 998);
        checks.due("count(11)", x.count(11), 0);
        checks.due("feed to the taken tape", Checks.feed(x, "ring"), 4);
    }
}
