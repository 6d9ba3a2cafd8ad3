import java.util.Arrays;
import java.util.NoSuchElementException;

/** Ring weaves: mail told as a cell of rings, laid out in sheets, changed, looked at and weighed. */
public final class RingWeaves {
    public static final int NONE = -1;

    private static final int TAPE_MOST = 1000;
    private static final int CELL_RINGS_MOST = 4;
    private static final int WEAVE_LINKS_MOST = 24;
    private static final int SIDE_MOST = 12;
    private static final int SHEET_RINGS_MOST = 240;
    private static final int RINGS_MOST = 300;
    private static final int WIRE_MOST = 999;
    private static final int WITHIN_MOST = 9999;
    private static final int HEFT_MOST = 99;

    /** Thousandths of the wire that the inner width must reach, by the number of links. */
    private static final int[] ROOM = {0, 1000, 2000, 2155, 2414, 2701, 3000, 3000, 3304};
    private static final int ROOM_EACH_MORE = 400;

    private final Tape tape;
    private final Reader reader;
    private final Mail mail;
    private final Pieces pieces;
    private final Making making;
    private Weave inHand;
    private Weave draft;
    private int wire;
    private int within;
    private int heft;

    public RingWeaves() {
        tape = new Tape();
        reader = new Reader(new Tokens(tape));
        mail = new Mail();
        pieces = new Pieces(mail);
        making = new Making(mail, pieces);
        inHand = new Weave();
        draft = new Weave();
        wire = 100;
        within = 400;
        heft = 8;
    }

    public int feed(long a, long b, long c) {
        tape.putBytes(a);
        tape.putBytes(b);
        tape.putBytes(c);
        return tape.length;
    }

    public int weave() {
        int fault = reader.read(draft);
        tape.empty();
        if (fault == 0) {
            Weave before = inHand;
            inHand = draft;
            draft = before;
        }
        return fault;
    }

    public int lay(int columns, int rows) {
        if (inHand.rings == 0 || !isSide(columns) || !isSide(rows)) {
            return NONE;
        }
        if (columns * rows * inHand.rings > SHEET_RINGS_MOST) {
            return NONE;
        }
        mail.layOut(inHand, columns, rows);
        return mail.numbered;
    }

    public int at(int column, int row, int k) {
        return mail.ringOfCell(column, row, k);
    }

    public int add() {
        return mail.putIn();
    }

    public int take(int ring) {
        return mail.isThere(ring) ? mail.takeAway(ring) : NONE;
    }

    public boolean link(int a, int b) {
        if (a == b || !mail.isThere(a) || !mail.isThere(b) || mail.areLinked(a, b)) {
            return false;
        }
        mail.join(a, b);
        return true;
    }

    public boolean unlink(int a, int b) {
        if (!mail.isThere(a) || !mail.isThere(b) || !mail.areLinked(a, b)) {
            return false;
        }
        mail.part(a, b);
        return true;
    }

    public int mend() {
        return mail.mendWorn();
    }

    public int look(int ring, int what) throws NoSuchElementException {
        if (!mail.isNumbered(ring) || what < 0 || what > 6) {
            throw new NoSuchElementException("no such ring, or no such thing to look for");
        }
        if (what == 0) {
            return asNumber(mail.isThere(ring));
        }
        if (!mail.isThere(ring)) {
            throw new NoSuchElementException("the ring is taken");
        }
        return lookAtOneThere(ring, what);
    }

    public int over(int a, int b) {
        if (!mail.isThere(a) || !mail.isThere(b)) {
            return -2;
        }
        if (!mail.areLinked(a, b)) {
            return 0;
        }
        return mail.goesOver(a, b) ? 1 : -1;
    }

    public int linked(int ring, int i) {
        return mail.isThere(ring) ? mail.linkedAtPlace(ring, i) : NONE;
    }

    public int fewest() {
        making.refresh();
        return pieces.partable ? making.openedRings : NONE;
    }

    public int order(int i) {
        making.refresh();
        return i >= 0 && i < making.openedRings ? making.inOrder[i] : NONE;
    }

    public boolean sizes(int wire, int within, int g) {
        if (!isWithin(wire, WIRE_MOST) || !isWithin(within, WITHIN_MOST) || !isWithin(g, HEFT_MOST)) {
            return false;
        }
        this.wire = wire;
        this.within = within;
        heft = g;
        return true;
    }

    public int count(int what) {
        switch (what) {
            case 0: return mail.ringsThere();
            case 1: return mail.allLinks();
            case 2: pieces.refresh(); return pieces.number;
            case 3: return mail.fullRings();
            case 4: return bindingRings();
            case 5: pieces.refresh(); return pieces.cutRings;
            case 6: return wireOfAll();
            case 7: return weightOfAll();
            case 8: return mail.numbered;
            case 9: return inHand.rings;
            case 10: return inHand.links;
            case 11: return tape.length;
            case 12: return mail.wornRings();
            default: return NONE;
        }
    }

    private int lookAtOneThere(int ring, int what) {
        switch (what) {
            case 1: return mail.linksOf(ring);
            case 2: return asNumber(mail.isFull(ring));
            case 3: return asNumber(binds(ring));
            case 4: pieces.refresh(); return asNumber(pieces.cut[ring]);
            case 5: making.refresh(); return asNumber(making.isOpened(ring));
            default: pieces.refresh(); return pieces.least[ring];
        }
    }

    private boolean binds(int ring) {
        int links = mail.linksOf(ring);
        return links > 0 && 1000 * within < wire * roomFor(links);
    }

    private static int roomFor(int links) {
        int last = ROOM.length - 1;
        if (links <= last) {
            return ROOM[links];
        }
        return ROOM[last] + ROOM_EACH_MORE * (links - last);
    }

    private int bindingRings() {
        int found = 0;
        for (int ring = 0; ring < mail.numbered; ring++) {
            if (mail.isThere(ring) && binds(ring)) {
                found++;
            }
        }
        return found;
    }

    private int wireOfAll() {
        return (within + wire) * 355 / 113 * mail.ringsThere();
    }

    private int weightOfAll() {
        // The product outgrows an int long before the weight does.
        return (int) ((long) wireOfAll() * wire * wire * heft / 1000000);
    }

    private static boolean isSide(int cells) {
        return isWithin(cells, SIDE_MOST);
    }

    private static boolean isWithin(int number, int most) {
        return number >= 1 && number <= most;
    }

    private static int asNumber(boolean answer) {
        return answer ? 1 : 0;
    }

    /** The signs that were fed and not yet read. */
    private static final class Tape {
        final char[] signs;
        int length;

        Tape() {
            signs = new char[TAPE_MOST];
        }

        void putBytes(long bytes) {
            for (int shift = 56; shift >= 0; shift -= 8) {
                putSign((int) (bytes >>> shift) & 255);
            }
        }

        void empty() {
            length = 0;
        }

        private void putSign(int sign) {
            boolean stands = sign == 10 || sign >= 32 && sign <= 126;
            if (stands && length < TAPE_MOST) {
                signs[length] = (char) sign;
                length++;
            }
        }
    }

    /** The tape's tokens, one at a time from the left. */
    private static final class Tokens {
        static final int END = 0;
        static final int WORD = 1;
        static final int NUMBER = 2;
        static final int SIGN = 3;
        static final int NO_TOKEN = 4;

        private static final int LETTERS_MOST = 8;
        private static final int DIGITS_MOST = 4;

        private final Tape tape;
        private int behind;
        int kind;
        int place;
        /** A number's value; a sign; a word's letters as bytes, the last one lowest: all eight fit. */
        long value;

        Tokens(Tape tape) {
            this.tape = tape;
        }

        void start() {
            behind = 0;
            step();
        }

        void step() {
            place = behindBlanks(behind);
            behind = place;
            value = 0;
            if (place >= tape.length) {
                kind = END;
            } else if (isLetter(tape.signs[place])) {
                readWord();
            } else if (isDigit(tape.signs[place])) {
                readNumber();
            } else {
                readSign();
            }
        }

        boolean is(int someKind, long someValue) {
            return kind == someKind && value == someValue;
        }

        private int behindBlanks(int from) {
            int here = from;
            while (here < tape.length && (tape.signs[here] == 10 || tape.signs[here] == 32)) {
                here++;
            }
            return here;
        }

        private void readWord() {
            while (behind < tape.length && isLetter(tape.signs[behind])) {
                value = value << 8 | tape.signs[behind];
                behind++;
            }
            kind = behind - place <= LETTERS_MOST ? WORD : NO_TOKEN;
        }

        private void readNumber() {
            while (behind < tape.length && isDigit(tape.signs[behind])) {
                value = value * 10 + (tape.signs[behind] - '0');
                behind++;
            }
            kind = behind - place <= DIGITS_MOST ? NUMBER : NO_TOKEN;
        }

        private void readSign() {
            char sign = tape.signs[place];
            kind = sign == '+' || sign == '-' || sign == ';' ? SIGN : NO_TOKEN;
            value = sign;
            behind = place + 1;
        }

        private static boolean isLetter(char sign) {
            return sign >= 'a' && sign <= 'z';
        }

        private static boolean isDigit(char sign) {
            return sign >= '0' && sign <= '9';
        }
    }

    /** A cell's rings and its links, each told from its first ring; without rings it is none. */
    private static final class Weave {
        final int[] first;
        final int[] second;
        final int[] right;
        final int[] down;
        final boolean[] firstOver;
        int rings;
        int links;

        Weave() {
            first = new int[WEAVE_LINKS_MOST];
            second = new int[WEAVE_LINKS_MOST];
            right = new int[WEAVE_LINKS_MOST];
            down = new int[WEAVE_LINKS_MOST];
            firstOver = new boolean[WEAVE_LINKS_MOST];
        }

        void empty() {
            rings = 0;
            links = 0;
        }

        void copyFrom(Weave other) {
            rings = other.rings;
            links = other.links;
            for (int i = 0; i < links; i++) {
                first[i] = other.first[i];
                second[i] = other.second[i];
                right[i] = other.right[i];
                down[i] = other.down[i];
                firstOver[i] = other.firstOver[i];
            }
        }

        /** The link behind the told ones is being told: may it stand beside them? */
        boolean takesNewLink() {
            int n = links;
            if (first[n] == second[n] && right[n] == 0 && down[n] == 0) {
                return false;
            }
            for (int i = 0; i < n; i++) {
                if (isSameToldAlike(i, n) || isSameToldBack(i, n)) {
                    return false;
                }
            }
            return true;
        }

        private boolean isSameToldAlike(int i, int n) {
            return first[i] == first[n] && second[i] == second[n] && right[i] == right[n] && down[i] == down[n];
        }

        private boolean isSameToldBack(int i, int n) {
            return first[i] == second[n] && second[i] == first[n] && right[i] == -right[n] && down[i] == -down[n];
        }
    }

    /** Reads the tape's tokens as a weave, up to the first fault. */
    private static final class Reader {
        private static final long RING = 'r' << 24 | 'i' << 16 | 'n' << 8 | 'g';
        private static final long LINK = 'l' << 24 | 'i' << 16 | 'n' << 8 | 'k';
        private static final long OVER = 'o' << 24 | 'v' << 16 | 'e' << 8 | 'r';
        private static final long UNDER = (long) 'u' << 32 | 'n' << 24 | 'd' << 16 | 'e' << 8 | 'r';

        private static final int CANT_STAND = 1;
        private static final int NOT_TOLD = 2;
        private static final int TOLD_BEFORE = 3;
        private static final int ABOVE_NINE = 4;
        private static final int ONE_TOO_MANY = 5;
        private static final int NO_SUCH_LINK = 6;

        private final Tokens tokens;
        private final long[] names;
        private int fault;

        Reader(Tokens tokens) {
            this.tokens = tokens;
            names = new long[CELL_RINGS_MOST];
        }

        int read(Weave weave) {
            weave.empty();
            fault = 0;
            tokens.start();
            if (!isWord(RING)) {
                failWith(CANT_STAND);
                return fault;
            }
            // One round more than can stand: that one's word is the fault.
            for (int n = 0; n <= CELL_RINGS_MOST && fault == 0 && isWord(RING); n++) {
                readRing(weave);
            }
            for (int n = 0; n <= WEAVE_LINKS_MOST && fault == 0 && isWord(LINK); n++) {
                readLink(weave);
            }
            if (fault == 0 && tokens.kind != Tokens.END) {
                failWith(CANT_STAND);
            }
            return fault;
        }

        private void readRing(Weave weave) {
            if (weave.rings >= CELL_RINGS_MOST) {
                failWith(ONE_TOO_MANY);
                return;
            }
            tokens.step();
            if (!isName()) {
                failWith(CANT_STAND);
            } else if (ringOfName(weave) != NONE) {
                failWith(TOLD_BEFORE);
            } else {
                names[weave.rings] = tokens.value;
                weave.rings++;
                tokens.step();
                passSemicolon();
            }
        }

        private void readLink(Weave weave) {
            int n = weave.links;
            if (n >= WEAVE_LINKS_MOST) {
                failWith(ONE_TOO_MANY);
                return;
            }
            tokens.step();
            weave.first[n] = readToldName(weave);
            weave.second[n] = readToldName(weave);
            weave.right[n] = readAway();
            weave.down[n] = readAway();
            weave.firstOver[n] = readOver(weave);
            passSemicolon();
            if (fault == 0) {
                weave.links++;
            }
        }

        private int readToldName(Weave weave) {
            if (fault != 0) {
                return NONE;
            }
            int ring = NONE;
            if (!isName()) {
                failWith(CANT_STAND);
            } else {
                ring = ringOfName(weave);
                if (ring == NONE) {
                    failWith(NOT_TOLD);
                }
            }
            tokens.step();
            return ring;
        }

        private int readAway() {
            if (fault != 0) {
                return 0;
            }
            boolean back = tokens.is(Tokens.SIGN, '-');
            if (back || tokens.is(Tokens.SIGN, '+')) {
                tokens.step();
            }
            if (tokens.kind != Tokens.NUMBER) {
                failWith(CANT_STAND);
            } else if (tokens.value > 9) {
                failWith(ABOVE_NINE);
            }
            int away = (int) tokens.value;
            tokens.step();
            return back ? -away : away;
        }

        private boolean readOver(Weave weave) {
            if (fault != 0) {
                return false;
            }
            boolean goesOver = isWord(OVER);
            if (!goesOver && !isWord(UNDER)) {
                failWith(CANT_STAND);
            } else if (!weave.takesNewLink()) {
                failWith(NO_SUCH_LINK);
            }
            tokens.step();
            return goesOver;
        }

        private void passSemicolon() {
            if (fault != 0) {
                return;
            }
            if (!tokens.is(Tokens.SIGN, ';')) {
                failWith(CANT_STAND);
            }
            tokens.step();
        }

        private boolean isWord(long word) {
            return tokens.is(Tokens.WORD, word);
        }

        private boolean isName() {
            return tokens.kind == Tokens.WORD && !isWord(RING) && !isWord(LINK) && !isWord(OVER) && !isWord(UNDER);
        }

        private int ringOfName(Weave weave) {
            for (int ring = 0; ring < weave.rings; ring++) {
                if (names[ring] == tokens.value) {
                    return ring;
                }
            }
            return NONE;
        }

        private void failWith(int kind) {
            fault = kind + 16 * tokens.place;
        }
    }

    /** Rows of marks, one for each ring that can be; packed, since a byte each would fill the room. */
    private static final class MarkRows {
        private static final int WORDS = (RINGS_MOST + 63) / 64;

        private final long[] words;

        MarkRows(int rows) {
            words = new long[rows * WORDS];
        }

        boolean has(int row, int ring) {
            return (words[row * WORDS + (ring >> 6)] >>> (ring & 63) & 1L) != 0;
        }

        void put(int row, int ring) {
            words[row * WORDS + (ring >> 6)] |= 1L << (ring & 63);
        }

        void drop(int row, int ring) {
            words[row * WORDS + (ring >> 6)] &= ~(1L << (ring & 63));
        }

        void dropAll() {
            Arrays.fill(words, 0L);
        }

        /** The least ring of the row, from this number on; NONE: there is none. */
        int next(int row, int from) {
            long mask = -1L << (from & 63);
            for (int word = from >> 6; word < WORDS; word++) {
                long left = words[row * WORDS + word] & mask;
                if (left != 0) {
                    long belowLowest = (left & -left) - 1;
                    return word * 64 + Long.bitCount(belowLowest);
                }
                mask = -1L;
            }
            return NONE;
        }

        int size(int row) {
            int size = 0;
            for (int word = 0; word < WORDS; word++) {
                size += Long.bitCount(words[row * WORDS + word]);
            }
            return size;
        }

        void putAllOf(int row, MarkRows others, int otherRow) {
            for (int word = 0; word < WORDS; word++) {
                words[row * WORDS + word] |= others.words[otherRow * WORDS + word];
            }
        }
    }

    /** The rings with their links, and the sheet of which the first of them are. */
    private static final class Mail {
        private final Weave laid;
        private final boolean[] there;
        private final MarkRows above;
        final MarkRows joined;
        private int columns;
        private int rows;
        private int sheetRings;
        int numbered;
        /** Grows with each change, so that what is worked out from the mail knows when it is stale. */
        int changes;

        Mail() {
            laid = new Weave();
            there = new boolean[RINGS_MOST];
            above = new MarkRows(RINGS_MOST);
            joined = new MarkRows(RINGS_MOST);
        }

        void layOut(Weave weave, int newColumns, int newRows) {
            laid.copyFrom(weave);
            columns = newColumns;
            rows = newRows;
            sheetRings = columns * rows * laid.rings;
            numbered = sheetRings;
            changes++;
            above.dropAll();
            joined.dropAll();
            for (int ring = 0; ring < RINGS_MOST; ring++) {
                there[ring] = ring < sheetRings;
            }
            for (int ring = 0; ring < sheetRings; ring++) {
                joinAsTold(ring);
            }
        }

        int ringOfCell(int column, int row, int k) {
            boolean inSheet = column >= 0 && column < columns && row >= 0 && row < rows;
            if (!inSheet || k < 0 || k >= laid.rings) {
                return NONE;
            }
            return (row * columns + column) * laid.rings + k;
        }

        boolean isNumbered(int ring) {
            return ring >= 0 && ring < numbered;
        }

        boolean isThere(int ring) {
            return isNumbered(ring) && there[ring];
        }

        int putIn() {
            if (numbered >= RINGS_MOST) {
                return NONE;
            }
            int ring = numbered;
            there[ring] = true;
            numbered++;
            changes++;
            return ring;
        }

        int takeAway(int ring) {
            int had = linksOf(ring);
            int other = joined.next(ring, 0);
            for (int n = 0; n < RINGS_MOST && other != NONE; n++) {
                part(ring, other);
                other = joined.next(ring, other + 1);
            }
            there[ring] = false;
            changes++;
            return had;
        }

        boolean areLinked(int a, int b) {
            return joined.has(a, b);
        }

        boolean goesOver(int a, int b) {
            return above.has(a, b);
        }

        void join(int upper, int lower) {
            joined.put(upper, lower);
            joined.put(lower, upper);
            above.put(upper, lower);
            changes++;
        }

        void part(int a, int b) {
            joined.drop(a, b);
            joined.drop(b, a);
            above.drop(a, b);
            above.drop(b, a);
            changes++;
        }

        int mendWorn() {
            int back = 0;
            for (int ring = 0; ring < sheetRings; ring++) {
                if (!there[ring]) {
                    there[ring] = true;
                    joinAsTold(ring);
                    back++;
                    changes++;
                }
            }
            return back;
        }

        int linksOf(int ring) {
            return joined.size(ring);
        }

        int linkedAtPlace(int ring, int place) {
            int other = joined.next(ring, 0);
            for (int n = 0; n < place && other != NONE; n++) {
                other = joined.next(ring, other + 1);
            }
            return place < 0 ? NONE : other;
        }

        boolean isFull(int ring) {
            if (!isThere(ring) || ring >= sheetRings) {
                return false;
            }
            for (int told = 0; told < laid.links; told++) {
                if (!standsAsTold(ring, told, true) || !standsAsTold(ring, told, false)) {
                    return false;
                }
            }
            return true;
        }

        int ringsThere() {
            int found = 0;
            for (int ring = 0; ring < numbered; ring++) {
                if (there[ring]) {
                    found++;
                }
            }
            return found;
        }

        int allLinks() {
            int found = 0;
            for (int ring = 0; ring < numbered; ring++) {
                found += above.size(ring);
            }
            return found;
        }

        int fullRings() {
            int found = 0;
            for (int ring = 0; ring < sheetRings; ring++) {
                if (isFull(ring)) {
                    found++;
                }
            }
            return found;
        }

        int wornRings() {
            int found = 0;
            for (int ring = 0; ring < sheetRings; ring++) {
                if (!there[ring]) {
                    found++;
                }
            }
            return found;
        }

        /** Those still worn are passed over: they join this one when they come back themselves. */
        private void joinAsTold(int ring) {
            for (int told = 0; told < laid.links; told++) {
                joinOneAsTold(ring, told, true);
                joinOneAsTold(ring, told, false);
            }
        }

        private void joinOneAsTold(int ring, int told, boolean asFirst) {
            if (!isOfLink(ring, told, asFirst)) {
                return;
            }
            int other = otherAsTold(ring, told, asFirst);
            if (!isThere(other)) {
                return;
            }
            if (laid.firstOver[told] == asFirst) {
                join(ring, other);
            } else {
                join(other, ring);
            }
        }

        private boolean standsAsTold(int ring, int told, boolean asFirst) {
            if (!isOfLink(ring, told, asFirst)) {
                return true;
            }
            int other = otherAsTold(ring, told, asFirst);
            if (other == NONE) {
                return false;
            }
            return laid.firstOver[told] == asFirst ? above.has(ring, other) : above.has(other, ring);
        }

        private boolean isOfLink(int ring, int told, boolean asFirst) {
            if (laid.rings < 1) {
                return false;
            }
            return ring % laid.rings == (asFirst ? laid.first[told] : laid.second[told]);
        }

        private int otherAsTold(int ring, int told, boolean asFirst) {
            if (laid.rings < 1 || columns < 1) {
                return NONE;
            }
            int cell = ring / laid.rings;
            int column = cell % columns;
            int row = cell / columns;
            if (asFirst) {
                return ringOfCell(column + laid.right[told], row + laid.down[told], laid.second[told]);
            }
            return ringOfCell(column - laid.right[told], row - laid.down[told], laid.first[told]);
        }
    }

    /** What hangs together, which rings alone hold it so, and whether all can be parted in two sides. */
    private static final class Pieces {
        /** Above all steps of one walk: each link from both its ends, and each ring's leaving. */
        private static final int STEPS_MOST = RINGS_MOST * (RINGS_MOST + 1);

        private final Mail mail;
        private final int[] found;
        private final int[] reach;
        private final int[] parent;
        private final int[] nextToTry;
        private int foundSoFar;
        private int rootBranches;
        private int changesSeen;
        final int[] least;
        /** Of rings that are there alone: taken ones are on no side. */
        final boolean[] firstSide;
        final boolean[] cut;
        int number;
        int cutRings;
        boolean partable;

        Pieces(Mail mail) {
            this.mail = mail;
            found = new int[RINGS_MOST];
            reach = new int[RINGS_MOST];
            parent = new int[RINGS_MOST];
            nextToTry = new int[RINGS_MOST];
            least = new int[RINGS_MOST];
            firstSide = new boolean[RINGS_MOST];
            cut = new boolean[RINGS_MOST];
            changesSeen = NONE;
        }

        void refresh() {
            if (changesSeen == mail.changes) {
                return;
            }
            changesSeen = mail.changes;
            number = 0;
            cutRings = 0;
            partable = true;
            foundSoFar = 0;
            for (int ring = 0; ring < RINGS_MOST; ring++) {
                found[ring] = NONE;
                firstSide[ring] = false;
                cut[ring] = false;
            }
            for (int ring = 0; ring < mail.numbered; ring++) {
                if (mail.isThere(ring) && found[ring] == NONE) {
                    number++;
                    walkPiece(ring);
                }
            }
        }

        /** Depth first with the way back kept in parent: calls of calls would go too deep. */
        private void walkPiece(int root) {
            rootBranches = 0;
            least[root] = root;
            firstSide[root] = true;
            enter(root, NONE);
            int ring = root;
            for (int step = 0; step < STEPS_MOST && ring != NONE; step++) {
                int other = mail.joined.next(ring, nextToTry[ring]);
                if (other == NONE) {
                    leave(ring);
                    ring = parent[ring];
                } else {
                    nextToTry[ring] = other + 1;
                    ring = tryLink(ring, other);
                }
            }
        }

        private int tryLink(int ring, int other) {
            if (found[other] == NONE) {
                least[other] = least[ring];
                firstSide[other] = !firstSide[ring];
                enter(other, ring);
                return other;
            }
            if (firstSide[other] == firstSide[ring]) {
                partable = false;
            }
            reach[ring] = Math.min(reach[ring], found[other]);
            return ring;
        }

        private void enter(int ring, int from) {
            found[ring] = foundSoFar;
            reach[ring] = foundSoFar;
            foundSoFar++;
            parent[ring] = from;
            nextToTry[ring] = 0;
        }

        private void leave(int ring) {
            int from = parent[ring];
            if (from == NONE) {
                return;
            }
            reach[from] = Math.min(reach[from], reach[ring]);
            if (parent[from] != NONE) {
                if (reach[ring] >= found[from]) {
                    markCut(from);
                }
                return;
            }
            rootBranches++;
            if (rootBranches > 1) {
                markCut(from);
            }
        }

        private void markCut(int ring) {
            if (!cut[ring]) {
                cut[ring] = true;
                cutRings++;
            }
        }
    }

    /** Which rings need be opened, and in what order. */
    private static final class Making {
        private static final int OPENED = 0;
        private static final int LEFT = 1;
        private static final int AT_HAND = 2;
        private static final int NEAR = 3;
        private static final int MARKS = 4;

        private final Mail mail;
        private final Pieces pieces;
        private final MarkRows marks;
        private final int[] pair;
        private final int[] reachedFrom;
        private final int[] queue;
        private final boolean[] queued;
        private int queueLength;
        private int changesSeen;
        final int[] inOrder;
        int openedRings;

        Making(Mail mail, Pieces pieces) {
            this.mail = mail;
            this.pieces = pieces;
            marks = new MarkRows(MARKS);
            pair = new int[RINGS_MOST];
            reachedFrom = new int[RINGS_MOST];
            queue = new int[RINGS_MOST];
            queued = new boolean[RINGS_MOST];
            inOrder = new int[RINGS_MOST];
            changesSeen = NONE;
        }

        void refresh() {
            if (changesSeen == mail.changes) {
                return;
            }
            changesSeen = mail.changes;
            pieces.refresh();
            openedRings = 0;
            marks.dropAll();
            if (pieces.partable) {
                pairWhatIsFree();
                pairAsManyAsCanBe();
                markOpened();
                putInOrder();
            }
        }

        boolean isOpened(int ring) {
            return marks.has(OPENED, ring);
        }

        private void pairWhatIsFree() {
            Arrays.fill(pair, NONE);
            for (int ring = 0; ring < mail.numbered; ring++) {
                if (pieces.firstSide[ring]) {
                    pairWithFree(ring);
                }
            }
        }

        private void pairWithFree(int ring) {
            int other = mail.joined.next(ring, 0);
            for (int n = 0; n < RINGS_MOST && other != NONE; n++) {
                if (pair[other] == NONE) {
                    pair[ring] = other;
                    pair[other] = ring;
                    return;
                }
                other = mail.joined.next(ring, other + 1);
            }
        }

        private void pairAsManyAsCanBe() {
            // Each round but the last makes one pair more; what the last one reaches is A and B.
            for (int round = 0; round <= RINGS_MOST; round++) {
                int end = reachFromUnpaired();
                if (end == NONE) {
                    return;
                }
                turnPairsUpTo(end);
            }
        }

        /** A ring of the second side in no pair that can be reached; NONE: then all that can be is reached. */
        private int reachFromUnpaired() {
            queueUnpaired();
            // The queue grows meanwhile, but each ring comes into it once.
            for (int head = 0; head < RINGS_MOST && head < queueLength; head++) {
                int end = reachFrom(queue[head]);
                if (end != NONE) {
                    return end;
                }
            }
            return NONE;
        }

        private void queueUnpaired() {
            Arrays.fill(reachedFrom, NONE);
            queueLength = 0;
            for (int ring = 0; ring < mail.numbered; ring++) {
                queued[ring] = false;
                if (pieces.firstSide[ring] && pair[ring] == NONE) {
                    putInQueue(ring);
                }
            }
        }

        /** Over by any link, back by a pair. */
        private int reachFrom(int ring) {
            int other = mail.joined.next(ring, 0);
            for (int n = 0; n < RINGS_MOST && other != NONE; n++) {
                if (reachedFrom[other] == NONE) {
                    reachedFrom[other] = ring;
                    if (pair[other] == NONE) {
                        return other;
                    }
                    putInQueue(pair[other]);
                }
                other = mail.joined.next(ring, other + 1);
            }
            return NONE;
        }

        private void putInQueue(int ring) {
            if (!queued[ring] && queueLength < RINGS_MOST) {
                queued[ring] = true;
                queue[queueLength] = ring;
                queueLength++;
            }
        }

        private void turnPairsUpTo(int end) {
            int other = end;
            for (int n = 0; n < RINGS_MOST && other != NONE; n++) {
                int ring = reachedFrom[other];
                if (ring == NONE) {
                    return;
                }
                int pairBefore = pair[ring];
                pair[ring] = other;
                pair[other] = ring;
                other = pairBefore;
            }
        }

        private void markOpened() {
            for (int ring = 0; ring < mail.numbered; ring++) {
                if (mail.isThere(ring) && needsOpening(ring)) {
                    marks.put(OPENED, ring);
                    openedRings++;
                }
            }
        }

        private boolean needsOpening(int ring) {
            if (pieces.firstSide[ring]) {
                return !queued[ring] && mail.linksOf(ring) > 0;
            }
            return reachedFrom[ring] != NONE;
        }

        private void putInOrder() {
            marks.putAllOf(LEFT, marks, OPENED);
            for (int n = 0; n < openedRings; n++) {
                int ring = nextToOpen();
                inOrder[n] = ring;
                if (ring == NONE) {
                    return;
                }
                marks.drop(LEFT, ring);
                takeInHand(ring);
                takeLinkedInHand(ring);
            }
        }

        private int nextToOpen() {
            int leastLeft = marks.next(LEFT, 0);
            int ring = leastLeft;
            for (int n = 0; n < RINGS_MOST && ring != NONE; n++) {
                if (marks.has(NEAR, ring)) {
                    return ring;
                }
                ring = marks.next(LEFT, ring + 1);
            }
            return leastLeft;
        }

        private void takeLinkedInHand(int ring) {
            int other = mail.joined.next(ring, 0);
            for (int n = 0; n < RINGS_MOST && other != NONE; n++) {
                takeInHand(other);
                other = mail.joined.next(ring, other + 1);
            }
        }

        private void takeInHand(int ring) {
            if (!marks.has(AT_HAND, ring)) {
                marks.put(AT_HAND, ring);
                marks.putAllOf(NEAR, mail.joined, ring);
            }
        }
    }
}
