import java.util.NoSuchElementException;

/** Tells every answer that is not the one due; finish() ends with exit code 1 if there was one. */
final class Checks {
    static final String MESH = "ring a ; link a a 1 0 over ; link a a 0 + 1 under ;";
    static final String CHAIN = "ring a ; link a a 1 0 over ;";

    private int wrong;
    private int asked;
    private String sentence = "";

    /** The document's words that the next answers are held against: told with each that is wrong. */
    void sentence(String words) {
        sentence = "[" + words + "] ";
    }

    void due(String call, long got, long want) {
        asked++;
        if (got != want) {
            wrong++;
            System.out.println(sentence + call + " answered " + got + ", due is " + want);
        }
    }

    void due(String call, boolean got, boolean want) {
        due(call, got ? 1 : 0, want ? 1 : 0);
    }

    void dueLook(RingWeaves x, int ring, int what, int want) {
        String call = "look(" + ring + ", " + what + ")";
        try {
            due(call, x.look(ring, what), want);
        } catch (NoSuchElementException e) {
            due(call + " throws", 1, 0);
        }
    }

    void dueLookThrows(RingWeaves x, int ring, int what) {
        int thrown = 0;
        try {
            x.look(ring, what);
        } catch (NoSuchElementException e) {
            thrown = 1;
        }
        due("look(" + ring + ", " + what + ") throws", thrown, 1);
    }

    /** Of rings 0, 1 and so on, what look answers. */
    void dueLooks(RingWeaves x, int what, int... want) {
        for (int ring = 0; ring < want.length; ring++) {
            dueLook(x, ring, what, want[ring]);
        }
    }

    void dueCount(RingWeaves x, int what, int want) {
        due("count(" + what + ")", x.count(what), want);
    }

    void dueWeave(String text, int want) {
        RingWeaves x = new RingWeaves();
        feed(x, text);
        due("weave() of '" + text + "'", x.weave(), want);
    }

    void dueFault(String text, int kind, int place) {
        dueWeave(text, kind + 16 * place);
    }

    void dueOrder(RingWeaves x, int... rings) {
        due("fewest()", x.fewest(), rings.length);
        for (int i = 0; i < rings.length; i++) {
            due("order(" + i + ")", x.order(i), rings[i]);
        }
        due("order(" + rings.length + ")", x.order(rings.length), -1);
    }

    void dueLinked(RingWeaves x, int ring, int... others) {
        for (int i = 0; i < others.length; i++) {
            due("linked(" + ring + ", " + i + ")", x.linked(ring, i), others[i]);
        }
        due("linked(" + ring + ", " + others.length + ")", x.linked(ring, others.length), -1);
    }

    void finish() {
        System.out.println(asked + " answers, " + wrong + " wrong");
        if (wrong != 0) {
            System.exit(1);
        }
    }

    static int feed(RingWeaves x, String text) {
        int signs = x.count(11);
        for (int from = 0; from < text.length(); from += 24) {
            signs = x.feed(bytes(text, from), bytes(text, from + 8), bytes(text, from + 16));
        }
        return signs;
    }

    static long bytes(String text, int from) {
        long bytes = 0;
        for (int i = from; i < from + 8; i++) {
            bytes = bytes << 8 | (i < text.length() ? text.charAt(i) : 0);
        }
        return bytes;
    }

    static RingWeaves withWeave(String text) {
        RingWeaves x = new RingWeaves();
        feed(x, text);
        x.weave();
        return x;
    }

    static RingWeaves laid(String text, int columns, int rows) {
        RingWeaves x = withWeave(text);
        x.lay(columns, rows);
        return x;
    }

    /** Loose rings, linked as told by pairs: the first of each goes over the second. */
    static RingWeaves loose(int rings, int... pairs) {
        RingWeaves x = new RingWeaves();
        for (int i = 0; i < rings; i++) {
            x.add();
        }
        for (int i = 0; i + 1 < pairs.length; i += 2) {
            x.link(pairs[i], pairs[i + 1]);
        }
        return x;
    }
}
