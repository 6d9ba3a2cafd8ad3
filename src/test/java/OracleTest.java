import java.util.NoSuchElementException;

/** All promises: long runs of calls on RingWeaves and on the plain model, which must agree. */
public final class OracleTest {
    private static final String[] WORDS = {"ring", "link", "over", "under", "a", "b", "c", "abcdefgh", "abcdefghi",
        "0", "1", "9", "10", "0009", "00009", "+", "-", ";", "A", "#", "\n", "  "};
    private static final int[] WILD = {Integer.MIN_VALUE, -1, 0, 1, 12, 13, 239, 240, 299, 300, 301, 512,
        Integer.MAX_VALUE};

    private final Checks checks = new Checks();
    private long seed = 20261118;
    private RingWeaves x;
    private PlainMail model;
    private int size;
    private boolean parted;

    public static void main(String[] args) {
        OracleTest test = new OracleTest();
        for (int run = 0; run < 400; run++) {
            test.texts();
        }
        for (int run = 0; run < 150; run++) {
            test.run(run);
        }
        test.checks.finish();
    }

    /** Its own numbers, the same in each run. */
    private int below(int bound) {
        seed = seed * 6364136223846793005L + 1442695040888963407L;
        return (int) ((seed >>> 33) % bound);
    }

    private void texts() {
        x = new RingWeaves();
        model = new PlainMail();
        for (int i = 0; i < 40; i++) {
            StringBuilder text = new StringBuilder(goodText());
            int changes = below(4);
            for (int k = 0; k < changes; k++) {
                int at = below(text.length());
                if (below(2) == 0) {
                    text.insert(at, WORDS[below(WORDS.length)]);
                } else {
                    text.delete(at, Math.min(text.length(), at + 1 + below(3)));
                }
                if (text.length() == 0) {
                    text.append(' ');
                }
            }
            read(text.toString());
            both("count", 9 + below(2));
        }
    }

    private String goodText() {
        String[] names = {"a", "b", "c", "dddddddd"};
        StringBuilder text = new StringBuilder();
        int rings = 1 + below(4);
        for (int i = 0; i < rings; i++) {
            text.append("ring ").append(names[i]).append(" ;");
        }
        int links = below(8) == 0 ? below(30) : below(6);
        for (int i = 0; i < links; i++) {
            text.append("link ").append(names[below(rings)]).append(' ').append(names[below(rings)]);
            text.append(away()).append(away());
            text.append(below(2) == 0 ? " over;" : "under ;");
        }
        return text.toString();
    }

    private String away() {
        String[] signs = {" ", " +", "-", "+ "};
        return signs[below(4)] + below(below(4) == 0 ? 10 : 3);
    }

    private void read(String text) {
        for (int from = 0; from < text.length(); from += 24) {
            long a = Checks.bytes(text, from);
            long b = Checks.bytes(text, from + 8);
            long c = Checks.bytes(text, from + 16);
            checks.due("feed of '" + text + "'", x.feed(a, b, c), model.feed(a, b, c));
        }
        checks.due("weave() of '" + text + "'", x.weave(), model.weave());
    }

    private void run(int run) {
        x = new RingWeaves();
        model = new PlainMail();
        size = run % 3 == 0 ? 10 : run % 3 == 1 ? 40 : 300;
        parted = below(3) > 0;
        if (below(4) > 0) {
            layAny();
        } else {
            for (int i = 0; i < size / 3; i++) {
                both("add");
            }
        }
        for (int i = 0; i < 200; i++) {
            change();
            ask();
            if (i % 40 == 39) {
                askAll();
            }
        }
    }

    private void layAny() {
        read(below(3) == 0 ? Checks.MESH : goodText());
        int most = size == 10 ? 3 : size == 40 ? 6 : 12;
        both("lay", 1 + below(most), 1 + below(most));
    }

    private void change() {
        int numbered = Math.max(1, x.count(8));
        switch (below(12)) {
            case 0: both("take", below(numbered)); break;
            case 1: both("add"); break;
            case 2: if (below(4) == 0) { both("mend"); } break;
            case 3: if (below(25) == 0) { layAny(); } break;
            case 4: if (below(8) == 0) { read(goodText()); } break;
            case 5: both("sizes", 1 + below(999), 1 + below(4000), 1 + below(99)); break;
            case 6: wild(); break;
            case 7: case 8: unlinkAny(below(numbered)); break;
            default: linkAny(below(numbered), below(numbered)); break;
        }
    }

    private void linkAny(int a, int b) {
        // Else nearly all would soon have rounds of odd length, and no ring would be opened.
        both("link", a, parted && (a + b) % 2 == 0 ? b + 1 : b);
    }

    private void unlinkAny(int ring) {
        int other = x.linked(ring, below(4));
        both("unlink", ring, other);
        if (below(2) == 0) {
            both("link", other, ring);
        }
    }

    private void wild() {
        int a = WILD[below(WILD.length)];
        int b = WILD[below(WILD.length)];
        int c = WILD[below(WILD.length)];
        both("at", a, b, c);
        both("take", a);
        both("link", a, b);
        both("unlink", a, b);
        both("look", a, b);
        both("over", a, b);
        both("linked", a, b);
        both("order", a);
        both("count", a);
        both("sizes", a, b, c);
        if (below(20) == 0) {
            both("lay", a, b);
        }
    }

    private void ask() {
        int numbered = Math.max(1, x.count(8));
        both("look", below(numbered), below(7));
        both("over", below(numbered), below(numbered));
        both("linked", below(numbered), below(5));
        both("count", size == 300 && below(5) > 0 ? 1 : below(13));
        both("at", below(12), below(12), below(4));
        if (below(4) == 0) {
            both("fewest");
            both("order", below(numbered));
        }
    }

    private void askAll() {
        int numbered = x.count(8);
        for (int what = 0; what <= 12; what++) {
            both("count", what);
        }
        for (int n = 0; n < 12; n++) {
            int ring = numbered <= 12 ? n : below(numbered);
            for (int what = 0; what <= 6; what++) {
                both("look", ring, what);
            }
            both("order", numbered <= 12 ? n : below(8));
        }
    }

    private void both(String call, int... with) {
        StringBuilder told = new StringBuilder(call).append('(');
        for (int i = 0; i < with.length; i++) {
            told.append(i == 0 ? "" : ", ").append(with[i]);
        }
        checks.due(told.append(')').toString(), answer(call, with), answerOfModel(call, with));
    }

    private int answer(String call, int[] with) {
        switch (call) {
            case "lay": return x.lay(with[0], with[1]);
            case "at": return x.at(with[0], with[1], with[2]);
            case "add": return x.add();
            case "take": return x.take(with[0]);
            case "link": return x.link(with[0], with[1]) ? 1 : 0;
            case "unlink": return x.unlink(with[0], with[1]) ? 1 : 0;
            case "mend": return x.mend();
            case "over": return x.over(with[0], with[1]);
            case "linked": return x.linked(with[0], with[1]);
            case "fewest": return x.fewest();
            case "order": return x.order(with[0]);
            case "sizes": return x.sizes(with[0], with[1], with[2]) ? 1 : 0;
            case "count": return x.count(with[0]);
            default: return lookOrThrow(with[0], with[1]);
        }
    }

    private int lookOrThrow(int ring, int what) {
        try {
            return x.look(ring, what);
        } catch (NoSuchElementException e) {
            return PlainMail.THROWS;
        }
    }

    private int answerOfModel(String call, int[] with) {
        switch (call) {
            case "lay": return model.lay(with[0], with[1]);
            case "at": return model.at(with[0], with[1], with[2]);
            case "add": return model.add();
            case "take": return model.take(with[0]);
            case "link": return model.link(with[0], with[1]);
            case "unlink": return model.unlink(with[0], with[1]);
            case "mend": return model.mend();
            case "over": return model.over(with[0], with[1]);
            case "linked": return model.linked(with[0], with[1]);
            case "fewest": return model.fewest();
            case "order": return model.order(with[0]);
            case "sizes": return model.sizes(with[0], with[1], with[2]);
            case "count": return model.count(with[0]);
            default: return model.look(with[0], with[1]);
        }
    }
}
