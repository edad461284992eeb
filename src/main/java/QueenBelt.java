/** A belt woven on square cards with a thread through each corner, told as a text. */
public final class QueenBelt {
    public static final int NONE = -1;
    public static final long NOTHING = -1000000000000000L;

    private final Tape tape = new Tape();
    private final Words words = new Words(tape);
    private final Loom told = new Loom();
    private final Loom draft = new Loom();
    private final LoomText loomText = new LoomText(words, draft);
    private final Belt cloth = new Belt();
    private final Acts acts = new Acts(cloth);
    private final Strip inFront = new Strip();
    private final Strip inBack = new Strip();
    private final Ways ways = new Ways(cloth, inFront, inBack);
    private final Question question = new Question(words, cloth);
    private final Image written = new Image();
    private int stoppedAt = NONE;

    public QueenBelt() {
    }

    public int feed(int a, int b, int c, int d, int e) {
        if (tape.length > Tape.MOST - 20) {
            return NONE;
        }
        tape.add(a);
        tape.add(b);
        tape.add(c);
        tape.add(d);
        tape.add(e);
        return tape.length;
    }

    public boolean end(int n) {
        if (n < 0 || n > tape.length) {
            return false;
        }
        tape.length = n;
        return true;
    }

    public int text() {
        boolean good = loomText.read();
        tape.length = 0;
        if (!good) {
            return NONE;
        }
        told.take(draft);
        stoppedAt = cloth.begin(told);
        acts.count = 0;
        inFront.rows = 0;
        inBack.rows = 0;
        return told.statements;
    }

    public int fault(int what) {
        switch (what) {
            case 0: return words.fault;
            case 1: return words.place;
            default: return NONE;
        }
    }

    public int loom(int what) {
        switch (what) {
            case 0: return told.colours;
            case 1: return told.cards;
            case 2: return told.packs;
            case 3: return told.limit;
            case 4: return told.letters;
            case 5: return cloth.rows;
            case 6: return stoppedAt;
            case 7: return cloth.left();
            case 8: return cloth.rhyme();
            case 9: return cloth.joins();
            case 10: return acts.count;
            case 11: return inFront.rows;
            case 12: return inBack.rows;
            default: return NONE;
        }
    }

    public int letter(int kind, int which, int k) {
        if (k < 0 || k >= Words.LONGEST_NAME) {
            return NONE;
        }
        int name = told.nameOf(kind, which);
        return name == NONE ? NONE : (name >> (5 * k)) & 31;
    }

    public int card(int card, int what) {
        if (!cloth.hasCard(card)) {
            return NONE;
        }
        switch (what) {
            case 0:
            case 1:
            case 2:
            case 3: return cloth.thread(card, what);
            case 4: return cloth.side(card);
            case 5: return cloth.twistBehind(cloth.rows - 1, card) & 3;
            case 6: return cloth.twistBehind(cloth.rows - 1, card) + 100;
            case 7: return cloth.backs(card);
            default: return NONE;
        }
    }

    public int pack(int pack, int card) {
        if (pack < 0 || pack >= told.packs || !cloth.hasCard(card)) {
            return NONE;
        }
        return told.isOfPack(pack, card) ? 1 : 0;
    }

    // ---- the belt

    public int belt(int row, int card, int what) {
        if (!cloth.hasRow(row) || !cloth.hasCard(card)) {
            return NONE;
        }
        switch (what) {
            case 0: return cloth.front(row, card);
            case 1: return cloth.behind(row, card);
            case 2: return cloth.slant(row, card);
            case 3: return cloth.turnOf(row, card);
            case 4: return cloth.twistBehind(row, card) + 100;
            default: return NONE;
        }
    }

    public int shown(int colour, boolean behind) {
        if (colour < 0 || colour >= told.colours) {
            return NONE;
        }
        return cloth.cells(colour, behind);
    }

    // ---- acts

    public int turn(int how, int pack) {
        if (how < Loom.ON || how > Loom.STILL || pack < NONE || pack >= told.packs
                || (how == Loom.STILL && pack == NONE) || told.cards == 0) {
            return NONE;
        }
        if (!cloth.weave(told.turning(how, pack))) {
            return NONE;
        }
        acts.keep(Acts.TURNED, 0);
        return cloth.rows;
    }

    public boolean unweave() {
        if (cloth.rows == 0) {
            return false;
        }
        acts.keep(Acts.UNWOVEN, cloth.turningOf(cloth.rows - 1));
        cloth.rows--;
        return true;
    }

    public boolean shift(int card) {
        if (!cloth.hasCard(card)) {
            return false;
        }
        cloth.threadsOn(card, 1);
        acts.keep(Acts.SHIFTED, card);
        return true;
    }

    public boolean string(int card) {
        if (!cloth.hasCard(card)) {
            return false;
        }
        cloth.otherSide(card);
        acts.keep(Acts.STRUNG, card);
        return true;
    }

    public boolean undo() {
        return acts.takeBack();
    }

    // ---- strips

    public int strip(boolean behind) {
        Strip strip = behind ? inBack : inFront;
        boolean good = strip.take(tape, told.cards, told.colours);
        tape.length = 0;
        return good ? strip.rows : NONE;
    }

    public int woven(int card, int corner, int what) {
        if (!cloth.hasCard(card) || corner < NONE || corner > 3 || inFront.rows == 0) {
            return NONE;
        }
        switch (what) {
            case 0: return ways.number(card, corner, false);
            case 1: return ways.fewestBacks(card, corner);
            case 2: return ways.leaveNoTwist(card, corner) ? 1 : 0;
            default: return NONE;
        }
    }

    public int barred(int what) {
        if (inFront.rows == 0 || what < 0 || what > 1) {
            return NONE;
        }
        int card = ways.firstBarred();
        return what == 0 || card == NONE ? card : ways.barredRow(card);
    }

    public int apart() {
        if (inFront.rows == 0 || inFront.rows > Ways.APART_ROWS || ways.firstBarred() != NONE) {
            return NONE;
        }
        return ways.fewestApart();
    }

    public int both(int card, int corner) {
        if (!cloth.hasCard(card) || corner < NONE || corner > 3
                || inFront.rows == 0 || inFront.rows != inBack.rows) {
            return NONE;
        }
        return ways.number(card, corner, true);
    }

    public int nearest(int card) {
        if (inFront.rows == 0 || (card != NONE && !cloth.hasCard(card))) {
            return NONE;
        }
        if (card != NONE) {
            return ways.mostRight(card);
        }
        int all = 0;
        for (int i = 0; i < cloth.cards; i++) {
            all += ways.mostRight(i);
        }
        return all;
    }

    // ---- wrong turns, mending

    public int wrong(int k) {
        if (k < NONE || inFront.rows == 0 || cloth.rows < inFront.rows) {
            return NONE;
        }
        int found = 0;
        for (int card = 0; card < cloth.cards; card++) {
            if (!inFront.othersFit(cloth, card)) {
                continue;
            }
            for (int row = 0; row < inFront.rows; row++) {
                if (!inFront.fitsOtherwise(cloth, card, row)) {
                    continue;
                }
                if (found == k) {
                    return 100 * card + row;
                }
                found++;
            }
        }
        return k == NONE ? found : NONE;
    }

    public int mend() {
        return inFront.rows == 0 ? NONE : cloth.rows - inFront.rowsAlike(cloth);
    }

    public int sure(int card, int row) {
        if (!cloth.hasCard(card) || row < 0 || row >= inFront.rows
                || ways.barredRow(card) != NONE) {
            return NONE;
        }
        if (!ways.canBe(card, row, Belt.WENT_BACK)) {
            return Belt.WENT_ON;
        }
        return ways.canBe(card, row, Belt.WENT_ON) ? 0 : Belt.WENT_BACK;
    }

    public long ask() {
        boolean good = question.read();
        tape.length = 0;
        return good ? question.answer() : NOTHING;
    }

    // ---- images

    public int image() {
        written.write(cloth);
        return written.length;
    }

    public int octet(int k) {
        return k < 0 || k >= written.length ? NONE : written.octetAt(k);
    }

    public boolean on() {
        boolean good = Image.isOne(tape, cloth, told.colours);
        if (good) {
            Image.bring(tape, cloth);
            acts.count = 0;
        }
        tape.length = 0;
        return good;
    }

    /** Arrays whose every index is looked at before it is used. */
    private static final class Cells {
        private Cells() {
        }

        static int at(int[] cells, int i) {
            return i >= 0 && i < cells.length ? cells[i] : 0;
        }

        static void put(int[] cells, int i, int value) {
            if (i >= 0 && i < cells.length) {
                cells[i] = value;
            }
        }

        static void copy(int[] from, int[] to) {
            for (int i = 0; i < from.length && i < to.length; i++) {
                to[i] = from[i];
            }
        }

        static void clear(int[] cells) {
            for (int i = 0; i < cells.length; i++) {
                cells[i] = 0;
            }
        }
    }

    /** The bytes that have been fed, each 0 to 255. */
    private static final class Tape {
        static final int MOST = 1600;
        private final int[] bytes = new int[MOST];
        int length;

        void add(int number) {
            for (int shift = 24; shift >= 0; shift -= 8) {
                if (length < MOST) {
                    Cells.put(bytes, length, (number >> shift) & 255);
                    length++;
                }
            }
        }

        int byteAt(int i) {
            return i >= 0 && i < length && i < bytes.length ? bytes[i] : NONE;
        }
    }

    /** The tape as words, numbers and marks, one at a time; it keeps the first fault. */
    private static final class Words {
        static final int LONGEST_NAME = 6;
        private static final int LONGEST_NUMBER = 4;
        private static final int ENDED = 0;
        private static final int WORD = 1;
        private static final int NUMBER = 2;
        private static final int MARK = 3;
        // A word right behind a number, or a number right behind a word: it never fits.
        private static final int TORN = 4;
        private static final String OWN_WORDS =
                "colour card strung s z pack twist weave on back still twice ";

        private final Tape tape;
        private int kind;
        private int size;
        private int next;
        // Where the present one begins.
        int start;
        // Of a word 5 bits for each of its first letters, the first one lowest.
        int value;
        int fault;
        int place = NONE;

        Words(Tape tape) {
            this.tape = tape;
        }

        void begin() {
            fault = 0;
            place = NONE;
            kind = ENDED;
            next = 0;
            step();
        }

        void step() {
            boolean mayTear = kind == WORD || kind == NUMBER;
            int before = next;
            while (next < tape.length && (tape.byteAt(next) == ' ' || tape.byteAt(next) == '\n')) {
                next++;
            }
            start = next;
            size = 0;
            value = 0;
            kind = kindOf(tape.byteAt(next));
            boolean more = kind != ENDED;
            while (more && next < tape.length) {
                take(tape.byteAt(next));
                next++;
                more = kind != MARK && kindOf(tape.byteAt(next)) == kind;
            }
            if (mayTear && start == before && (kind == WORD || kind == NUMBER)) {
                kind = TORN;
            }
        }

        private static int kindOf(int octet) {
            if (octet >= 'a' && octet <= 'z') {
                return WORD;
            }
            if (octet >= '0' && octet <= '9') {
                return NUMBER;
            }
            return octet == NONE ? ENDED : MARK;
        }

        private void take(int octet) {
            if (kind == WORD && size < LONGEST_NAME) {
                value |= (octet - 'a' + 1) << (5 * size);
            } else if (kind == NUMBER && size < LONGEST_NUMBER) {
                value = 10 * value + octet - '0';
            } else if (kind == MARK) {
                value = octet;
            }
            size++;
        }

        /** Always false, so that a reader can hand it on. */
        boolean fail(int newFault, int newPlace) {
            if (fault == 0) {
                fault = newFault;
                place = newPlace;
            }
            return false;
        }

        boolean failHere(int newFault) {
            if (fault == 0) {
                fault = newFault;
                place = start;
            }
            return false;
        }

        boolean ended() {
            return kind == ENDED;
        }

        boolean isMark(char mark) {
            return kind == MARK && value == mark;
        }

        boolean isWord(String word) {
            if (kind != WORD || size != word.length()) {
                return false;
            }
            for (int i = 0; i < word.length(); i++) {
                if ((value >> (5 * i) & 31) != word.charAt(i) - 'a' + 1) {
                    return false;
                }
            }
            return true;
        }

        private boolean isOwnWord() {
            int word = 0;
            int letters = 0;
            for (int i = 0; i < OWN_WORDS.length(); i++) {
                if (OWN_WORDS.charAt(i) != ' ') {
                    word |= (OWN_WORDS.charAt(i) - 'a' + 1) << (5 * letters);
                    letters++;
                } else if (letters == size && word == value) {
                    return true;
                } else {
                    word = 0;
                    letters = 0;
                }
            }
            return false;
        }

        /** A word that is meant as a name, be it too long. */
        boolean meansName() {
            return kind == WORD && !isOwnWord();
        }

        boolean isNumber() {
            return kind == NUMBER;
        }

        boolean mustBeName() {
            if (kind != WORD || isOwnWord()) {
                return failHere(1);
            }
            return size <= LONGEST_NAME || fail(1, start + LONGEST_NAME);
        }

        boolean mustBeNumber() {
            if (kind != NUMBER) {
                return failHere(1);
            }
            return size <= LONGEST_NUMBER || fail(1, start + LONGEST_NUMBER);
        }

        boolean takeMark(char mark) {
            if (!isMark(mark)) {
                return failHere(1);
            }
            step();
            return true;
        }

        boolean takeWord(String word) {
            if (!isWord(word)) {
                return failHere(1);
            }
            step();
            return true;
        }
    }

    /** What a loom's text tells. */
    private static final class Loom {
        static final int ON = 0;
        static final int BACK = 1;
        static final int STILL = 2;
        static final int MOST_COLOURS = 6;
        static final int MOST_CARDS = 8;
        static final int MOST_PACKS = 6;
        static final int MOST_LETTERS = 60;
        static final int MOST_TWIST = 40;

        int statements;
        int colours;
        int cards;
        int packs;
        int limit = MOST_TWIST;
        int letters;
        final int[] colourNames = new int[MOST_COLOURS];
        final int[] cardNames = new int[MOST_CARDS];
        final int[] packNames = new int[MOST_PACKS];
        final int[] sides = new int[MOST_CARDS];
        final int[] threads = new int[4 * MOST_CARDS];
        // A bit for each card of the pack.
        private final int[] packCards = new int[MOST_PACKS];
        private final int[] hows = new int[MOST_LETTERS];
        private final int[] whoms = new int[MOST_LETTERS];

        void empty() {
            statements = 0;
            colours = 0;
            cards = 0;
            packs = 0;
            limit = MOST_TWIST;
            letters = 0;
            Cells.clear(packCards);
        }

        void take(Loom other) {
            statements = other.statements;
            colours = other.colours;
            cards = other.cards;
            packs = other.packs;
            limit = other.limit;
            letters = other.letters;
            Cells.copy(other.colourNames, colourNames);
            Cells.copy(other.cardNames, cardNames);
            Cells.copy(other.packNames, packNames);
            Cells.copy(other.sides, sides);
            Cells.copy(other.threads, threads);
            Cells.copy(other.packCards, packCards);
            Cells.copy(other.hows, hows);
            Cells.copy(other.whoms, whoms);
        }

        static int place(int[] names, int count, int name) {
            for (int i = 0; i < count; i++) {
                if (Cells.at(names, i) == name) {
                    return i;
                }
            }
            return NONE;
        }

        boolean knows(int name) {
            return place(colourNames, colours, name) != NONE
                    || place(cardNames, cards, name) != NONE
                    || place(packNames, packs, name) != NONE;
        }

        int nameOf(int kind, int which) {
            switch (kind) {
                case 0: return which >= 0 && which < colours ? Cells.at(colourNames, which) : NONE;
                case 1: return which >= 0 && which < cards ? Cells.at(cardNames, which) : NONE;
                case 2: return which >= 0 && which < packs ? Cells.at(packNames, which) : NONE;
                default: return NONE;
            }
        }

        boolean isOfPack(int pack, int card) {
            return card >= 0 && card < MOST_CARDS && (Cells.at(packCards, pack) >> card & 1) == 1;
        }

        void addToPack(int pack, int card) {
            if (card >= 0 && card < MOST_CARDS) {
                Cells.put(packCards, pack, Cells.at(packCards, pack) | 1 << card);
            }
        }

        void addLetter(int how, int pack) {
            Cells.put(hows, letters, how);
            Cells.put(whoms, letters, pack);
            letters++;
        }

        /** The letters from one on are told once more; too many of them are only counted. */
        void tellAgain(int from) {
            int many = letters - from;
            for (int i = 0; i < many && letters + i < MOST_LETTERS; i++) {
                Cells.put(hows, letters + i, Cells.at(hows, from + i));
                Cells.put(whoms, letters + i, Cells.at(whoms, from + i));
            }
            letters += many;
        }

        int turningOfLetter(int letter) {
            return turning(Cells.at(hows, letter), Cells.at(whoms, letter));
        }

        /** Two bits for each card, as Belt.turnOf tells them. */
        int turning(int how, int pack) {
            int turning = 0;
            for (int card = 0; card < cards; card++) {
                boolean meant = pack == NONE || isOfPack(pack, card);
                turning |= oneTurn(how, meant) << (2 * card);
            }
            return turning;
        }

        private static int oneTurn(int how, boolean meant) {
            if (how == STILL) {
                return meant ? Belt.STAYED : Belt.WENT_ON;
            }
            return (how == ON) == meant ? Belt.WENT_ON : Belt.WENT_BACK;
        }
    }

    /** Reads a loom's text into a draft. */
    private static final class LoomText {
        private static final int MOST_STATEMENTS = 70;
        private static final int MOST_OPEN = 7;

        private final Words words;
        private final Loom draft;
        private boolean weaves;

        LoomText(Words words, Loom draft) {
            this.words = words;
            this.draft = draft;
        }

        boolean read() {
            draft.empty();
            weaves = false;
            words.begin();
            for (int i = 0; i <= MOST_STATEMENTS && !words.ended(); i++) {
                if (draft.statements >= MOST_STATEMENTS) {
                    return words.failHere(5);
                }
                boolean good = words.isWord("colour") ? readColour()
                        : words.isWord("card") ? readCard()
                        : words.isWord("pack") ? readPack()
                        : words.isWord("twist") ? readTwist()
                        : words.isWord("weave") ? readWeave() : words.failHere(1);
                if (!good || !words.takeMark(';')) {
                    return false;
                }
                draft.statements++;
            }
            return true;
        }

        /** A name that is not there yet, or NONE with a fault. */
        private int newName() {
            if (!words.mustBeName()) {
                return NONE;
            }
            int name = words.value;
            if (draft.knows(name)) {
                words.failHere(3);
                return NONE;
            }
            words.step();
            return name;
        }

        /** The place of a name that is asked, or NONE with a fault. */
        private int knownName(int[] names, int count) {
            if (!words.mustBeName()) {
                return NONE;
            }
            int place = Loom.place(names, count, words.value);
            if (place == NONE) {
                words.failHere(3);
                return NONE;
            }
            words.step();
            return place;
        }

        private boolean readColour() {
            if (draft.colours >= Loom.MOST_COLOURS) {
                return words.failHere(5);
            }
            words.step();
            int name = newName();
            if (name == NONE) {
                return false;
            }
            Cells.put(draft.colourNames, draft.colours, name);
            draft.colours++;
            return true;
        }

        private boolean readCard() {
            if (draft.cards >= Loom.MOST_CARDS) {
                return words.failHere(5);
            }
            words.step();
            int card = draft.cards;
            int name = newName();
            if (name == NONE || !words.takeWord("strung")) {
                return false;
            }
            if (!words.isWord("s") && !words.isWord("z")) {
                return words.failHere(1);
            }
            Cells.put(draft.sides, card, words.isWord("z") ? 1 : 0);
            words.step();
            for (int corner = 0; corner < 4; corner++) {
                int colour = knownName(draft.colourNames, draft.colours);
                if (colour == NONE) {
                    return false;
                }
                Cells.put(draft.threads, 4 * card + corner, colour);
            }
            Cells.put(draft.cardNames, card, name);
            draft.cards++;
            return true;
        }

        private boolean readPack() {
            if (draft.packs >= Loom.MOST_PACKS) {
                return words.failHere(5);
            }
            words.step();
            int pack = draft.packs;
            int name = newName();
            if (name == NONE || !readPackCard(pack)) {
                return false;
            }
            for (int i = 0; i < Tape.MOST && words.meansName(); i++) {
                if (!readPackCard(pack)) {
                    return false;
                }
            }
            Cells.put(draft.packNames, pack, name);
            draft.packs++;
            return true;
        }

        private boolean readPackCard(int pack) {
            int place = words.start;
            int card = knownName(draft.cardNames, draft.cards);
            if (card == NONE) {
                return false;
            }
            if (draft.isOfPack(pack, card)) {
                return words.fail(3, place);
            }
            draft.addToPack(pack, card);
            return true;
        }

        private boolean readTwist() {
            words.step();
            if (!words.mustBeNumber()) {
                return false;
            }
            if (words.value < 1 || words.value > Loom.MOST_TWIST) {
                return words.failHere(2);
            }
            draft.limit = words.value;
            words.step();
            return true;
        }

        private boolean readWeave() {
            if (weaves) {
                return words.failHere(5);
            }
            weaves = true;
            words.step();
            for (int i = 0; i < Tape.MOST && (i == 0 || beginsTurn()); i++) {
                int place = words.start;
                if (!readTurn(0)) {
                    return false;
                }
                if (draft.letters > Loom.MOST_LETTERS) {
                    return words.fail(5, place);
                }
            }
            return true;
        }

        private boolean beginsTurn() {
            return words.isWord("on") || words.isWord("back") || words.isWord("still")
                    || words.isWord("twice") || words.isMark('[');
        }

        private boolean readTurn(int open) {
            boolean twice = words.isWord("twice");
            if (!twice && !words.isMark('[')) {
                return readLetter();
            }
            if (open >= MOST_OPEN) {
                return words.failHere(4);
            }
            words.step();
            int from = draft.letters;
            for (int i = 0; i < Tape.MOST && (i == 0 || (!twice && beginsTurn())); i++) {
                if (!readTurn(open + 1)) {
                    return false;
                }
            }
            if (!twice) {
                return words.takeMark(']');
            }
            draft.tellAgain(from);
            return true;
        }

        private boolean readLetter() {
            boolean still = words.isWord("still");
            boolean on = words.isWord("on");
            if (!still && !on && !words.isWord("back")) {
                return words.failHere(1);
            }
            words.step();
            int pack = NONE;
            if (still || words.meansName()) {
                pack = knownName(draft.packNames, draft.packs);
                if (pack == NONE) {
                    return false;
                }
            }
            draft.addLetter(still ? Loom.STILL : on ? Loom.ON : Loom.BACK, pack);
            return true;
        }
    }

    /** The cards as they are strung now, and all rows that they have woven. */
    private static final class Belt {
        static final int MOST_ROWS = 60;
        static final int STAYED = 0;
        static final int WENT_ON = 1;
        static final int WENT_BACK = 2;

        int cards;
        int rows;
        int limit = Loom.MOST_TWIST;
        private final int[] sides = new int[Loom.MOST_CARDS];
        private final int[] threads = new int[4 * Loom.MOST_CARDS];
        private final int[] turnings = new int[MOST_ROWS];
        private final int[] twists = new int[MOST_ROWS * Loom.MOST_CARDS];

        /** Weaves what the loom tells: which of its turnings could not be, or NONE. */
        int begin(Loom loom) {
            cards = loom.cards;
            limit = loom.limit;
            Cells.copy(loom.sides, sides);
            Cells.copy(loom.threads, threads);
            rows = 0;
            for (int i = 0; i < loom.letters; i++) {
                if (!weave(loom.turningOfLetter(i))) {
                    return i;
                }
            }
            return NONE;
        }

        boolean weave(int turning) {
            if (rows >= MOST_ROWS) {
                return false;
            }
            for (int card = 0; card < cards; card++) {
                int twist = twistBehind(rows - 1, card) + quarters(turning, card);
                if (twist > limit || twist < -limit) {
                    return false;
                }
                Cells.put(twists, rows * Loom.MOST_CARDS + card, twist);
            }
            Cells.put(turnings, rows, turning);
            rows++;
            return true;
        }

        private static int turnIn(int turning, int card) {
            return (turning >> (2 * card)) & 3;
        }

        static int quarters(int turning, int card) {
            int turn = turnIn(turning, card);
            return turn == WENT_ON ? 1 : turn == WENT_BACK ? -1 : 0;
        }

        boolean hasCard(int card) {
            return card >= 0 && card < cards;
        }

        boolean hasRow(int row) {
            return row >= 0 && row < rows;
        }

        int side(int card) {
            return Cells.at(sides, card);
        }

        void setSide(int card, int side) {
            Cells.put(sides, card, side);
        }

        void otherSide(int card) {
            Cells.put(sides, card, 1 - side(card));
        }

        int thread(int card, int corner) {
            return Cells.at(threads, 4 * card + (corner & 3));
        }

        void setThread(int card, int corner, int colour) {
            Cells.put(threads, 4 * card + (corner & 3), colour);
        }

        void threadsOn(int card, int quarters) {
            int a = thread(card, quarters);
            int b = thread(card, 1 + quarters);
            int c = thread(card, 2 + quarters);
            int d = thread(card, 3 + quarters);
            setThread(card, 0, a);
            setThread(card, 1, b);
            setThread(card, 2, c);
            setThread(card, 3, d);
        }

        int turningOf(int row) {
            return Cells.at(turnings, row);
        }

        int turnOf(int row, int card) {
            return turnIn(turningOf(row), card);
        }

        /** Ahead of the first row there is no twist. */
        int twistBehind(int row, int card) {
            return row < 0 ? 0 : Cells.at(twists, row * Loom.MOST_CARDS + card);
        }

        int front(int row, int card) {
            return thread(card, twistBehind(row, card));
        }

        int behind(int row, int card) {
            return thread(card, twistBehind(row, card) + 2);
        }

        int slant(int row, int card) {
            int turn = turnOf(row, card);
            if (turn == STAYED) {
                return 0;
            }
            return (turn == WENT_ON) == (side(card) == 0) ? 1 : 2;
        }

        int cells(int colour, boolean inBack) {
            int many = 0;
            for (int row = 0; row < rows; row++) {
                for (int card = 0; card < cards; card++) {
                    if ((inBack ? behind(row, card) : front(row, card)) == colour) {
                        many++;
                    }
                }
            }
            return many;
        }

        /** In how many rows the card turned so. */
        int turned(int row, int turn) {
            int many = 0;
            for (int card = 0; card < cards; card++) {
                if (turnOf(row, card) == turn) {
                    many++;
                }
            }
            return many;
        }

        int backs(int card) {
            int many = 0;
            for (int row = 0; row < rows; row++) {
                if (turnOf(row, card) == WENT_BACK) {
                    many++;
                }
            }
            return many;
        }

        int left() {
            int all = 0;
            for (int card = 0; card < cards; card++) {
                all += Math.abs(twistBehind(rows - 1, card));
            }
            return all;
        }

        int rhyme() {
            for (int many = 1; many <= rows; many++) {
                if (rows % many == 0 && comesAgain(many)) {
                    return many;
                }
            }
            return 0;
        }

        private boolean comesAgain(int many) {
            for (int row = many; row < rows; row++) {
                if (turningOf(row) != turningOf(row - many)) {
                    return false;
                }
            }
            return true;
        }

        int joins() {
            int most = 1;
            for (int card = 0; card < cards; card++) {
                int corner = twistBehind(rows - 1, card) & 3;
                most = Math.max(most, corner == 0 ? 1 : corner == 2 ? 2 : 4);
            }
            return most;
        }
    }

    /** The latest acts, each with what takes it back. */
    private static final class Acts {
        static final int TURNED = 0;
        static final int UNWOVEN = 1;
        static final int SHIFTED = 2;
        static final int STRUNG = 3;
        private static final int MOST = 20;

        private final Belt belt;
        private final int[] kinds = new int[MOST];
        private final int[] whats = new int[MOST];
        int count;

        Acts(Belt belt) {
            this.belt = belt;
        }

        void keep(int kind, int what) {
            if (count >= MOST) {
                forgetOldest();
            }
            Cells.put(kinds, count, kind);
            Cells.put(whats, count, what);
            count++;
        }

        private void forgetOldest() {
            for (int i = 1; i < count; i++) {
                Cells.put(kinds, i - 1, Cells.at(kinds, i));
                Cells.put(whats, i - 1, Cells.at(whats, i));
            }
            count--;
        }

        boolean takeBack() {
            if (count == 0) {
                return false;
            }
            count--;
            int what = Cells.at(whats, count);
            switch (Cells.at(kinds, count)) {
                case TURNED: belt.rows--; break;
                case UNWOVEN: belt.weave(what); break;
                case SHIFTED: belt.threadsOn(what, 3); break;
                default: belt.otherSide(what); break;
            }
            return true;
        }
    }

    /** What is left of a belt, seen from one side. */
    private static final class Strip {
        static final int MOST_ROWS = 12;

        int rows;
        private final int[] told = new int[MOST_ROWS * Loom.MOST_CARDS];

        boolean take(Tape tape, int cards, int colours) {
            if (cards <= 0 || tape.length == 0 || tape.length % cards != 0
                    || tape.length / cards > MOST_ROWS) {
                return false;
            }
            for (int i = 0; i < tape.length; i++) {
                if (tape.byteAt(i) > colours) {
                    return false;
                }
            }
            rows = tape.length / cards;
            for (int i = 0; i < tape.length; i++) {
                Cells.put(told, i / cards * Loom.MOST_CARDS + i % cards, tape.byteAt(i));
            }
            return true;
        }

        boolean known(int row, int card) {
            return Cells.at(told, row * Loom.MOST_CARDS + card) != 0;
        }

        boolean fits(int row, int card, int colour) {
            int cell = Cells.at(told, row * Loom.MOST_CARDS + card);
            return cell == 0 || cell - 1 == colour;
        }

        int rowsAlike(Belt belt) {
            for (int row = 0; row < rows && row < belt.rows; row++) {
                for (int card = 0; card < belt.cards; card++) {
                    if (!fits(row, card, belt.front(row, card))) {
                        return row;
                    }
                }
            }
            return Math.min(rows, belt.rows);
        }

        private boolean cardFits(Belt belt, int card) {
            for (int row = 0; row < rows; row++) {
                if (!fits(row, card, belt.front(row, card))) {
                    return false;
                }
            }
            return true;
        }

        boolean othersFit(Belt belt, int card) {
            for (int other = 0; other < belt.cards; other++) {
                if (other != card && !cardFits(belt, other)) {
                    return false;
                }
            }
            return true;
        }

        /** From a row that is turned the other way on, the opposite corner is up. */
        boolean fitsOtherwise(Belt belt, int card, int turned) {
            if (belt.turnOf(turned, card) == Belt.STAYED) {
                return false;
            }
            for (int row = 0; row < rows; row++) {
                int colour = row < turned ? belt.front(row, card) : belt.behind(row, card);
                if (!fits(row, card, colour)) {
                    return false;
                }
            }
            return true;
        }
    }

    /** By which turns a card can have woven the strips. */
    private static final class Ways {
        static final int APART_ROWS = 6;
        // Twist 0 stands in the middle; the strip is too short to leave this at either end.
        private static final int MIDDLE = Strip.MOST_ROWS + 1;
        private static final int NEVER = -1000;

        private final Belt belt;
        private final Strip front;
        private final Strip behind;
        private final int[] now = new int[2 * MIDDLE + 1];
        private final int[] then = new int[2 * MIDDLE + 1];
        private final long[] patterns = new long[Loom.MOST_CARDS];
        // One row may be bound to a turn.
        private int boundRow = NONE;
        private int boundTurn;

        Ways(Belt belt, Strip front, Strip behind) {
            this.belt = belt;
            this.front = front;
            this.behind = behind;
        }

        private boolean inReach(int twist) {
            return twist <= belt.limit && twist >= -belt.limit;
        }

        private boolean mayTurn(int row, int turn) {
            return row != boundRow || turn == boundTurn;
        }

        private boolean shows(int row, int card, int corner, boolean both) {
            return front.fits(row, card, belt.thread(card, corner))
                    && (!both || behind.fits(row, card, belt.thread(card, corner + 2)));
        }

        /** How many rows can be woven; the ways of all these are counted by their twist. */
        private int count(int card, int corner, boolean both) {
            Cells.clear(now);
            Cells.put(now, MIDDLE, 1);
            for (int row = 0; row < front.rows; row++) {
                if (!countRow(row, card, corner, both)) {
                    return row;
                }
            }
            return front.rows;
        }

        private boolean countRow(int row, int card, int corner, boolean both) {
            boolean any = false;
            for (int twist = -MIDDLE; twist <= MIDDLE; twist++) {
                int many = 0;
                if (inReach(twist) && shows(row, card, corner + twist, both)) {
                    many += mayTurn(row, Belt.WENT_ON) ? Cells.at(now, MIDDLE + twist - 1) : 0;
                    many += mayTurn(row, Belt.WENT_BACK) ? Cells.at(now, MIDDLE + twist + 1) : 0;
                }
                Cells.put(then, MIDDLE + twist, many);
                any = any || many > 0;
            }
            Cells.copy(then, now);
            return any;
        }

        private static boolean isMeant(int corner, int one) {
            return corner == NONE || corner == one;
        }

        int number(int card, int corner, boolean both) {
            int all = 0;
            for (int one = 0; one < 4; one++) {
                if (isMeant(corner, one) && count(card, one, both) == front.rows) {
                    for (int twist = -front.rows; twist <= front.rows; twist++) {
                        all += Cells.at(now, MIDDLE + twist);
                    }
                }
            }
            return all;
        }

        int fewestBacks(int card, int corner) {
            int fewest = NONE;
            for (int one = 0; one < 4; one++) {
                if (!isMeant(corner, one) || count(card, one, false) < front.rows) {
                    continue;
                }
                for (int backs = 0; backs <= front.rows; backs++) {
                    if (Cells.at(now, MIDDLE + front.rows - 2 * backs) > 0) {
                        fewest = fewest == NONE ? backs : Math.min(fewest, backs);
                    }
                }
            }
            return fewest;
        }

        boolean leaveNoTwist(int card, int corner) {
            for (int one = 0; one < 4; one++) {
                if (isMeant(corner, one) && count(card, one, false) == front.rows
                        && Cells.at(now, MIDDLE) > 0) {
                    return true;
                }
            }
            return false;
        }

        /** The first row that can not be woven with those ahead of it, or NONE. */
        int barredRow(int card) {
            int most = 0;
            for (int corner = 0; corner < 4; corner++) {
                most = Math.max(most, count(card, corner, false));
            }
            return most == front.rows ? NONE : most;
        }

        int firstBarred() {
            for (int card = 0; card < belt.cards; card++) {
                if (barredRow(card) != NONE) {
                    return card;
                }
            }
            return NONE;
        }

        boolean canBe(int card, int row, int turn) {
            boundRow = row;
            boundTurn = turn;
            boolean can = barredRow(card) == NONE;
            boundRow = NONE;
            return can;
        }

        /** Of each twist the most rows known and right, by turns from corner a. */
        int mostRight(int card) {
            for (int i = 0; i < now.length; i++) {
                now[i] = NEVER;
            }
            Cells.put(now, MIDDLE, 0);
            for (int row = 0; row < front.rows; row++) {
                for (int twist = -MIDDLE; twist <= MIDDLE; twist++) {
                    Cells.put(then, MIDDLE + twist, rightWith(row, card, twist));
                }
                Cells.copy(then, now);
            }
            int most = 0;
            for (int twist = -MIDDLE; twist <= MIDDLE; twist++) {
                most = Math.max(most, Cells.at(now, MIDDLE + twist));
            }
            return most;
        }

        private int rightWith(int row, int card, int twist) {
            if (!inReach(twist) || twist <= -MIDDLE || twist >= MIDDLE) {
                return NEVER;
            }
            int ahead = Math.max(Cells.at(now, MIDDLE + twist - 1),
                    Cells.at(now, MIDDLE + twist + 1));
            boolean right = front.known(row, card)
                    && front.fits(row, card, belt.thread(card, twist));
            return right ? ahead + 1 : ahead;
        }

        /** Rows that are not apart have one turn for all cards; tried with each set of others. */
        int fewestApart() {
            int patternsOfRows = 1 << Math.min(front.rows, APART_ROWS);
            for (int card = 0; card < belt.cards; card++) {
                putPattern(card, patternsOf(card, patternsOfRows));
            }
            int fewest = front.rows;
            for (int apart = 0; apart < patternsOfRows; apart++) {
                if (Integer.bitCount(apart) < fewest && agree(~apart, patternsOfRows)) {
                    fewest = Integer.bitCount(apart);
                }
            }
            return fewest;
        }

        private void putPattern(int card, long pattern) {
            if (card >= 0 && card < patterns.length) {
                patterns[card] = pattern;
            }
        }

        private long patternOf(int card) {
            return card >= 0 && card < patterns.length ? patterns[card] : 0L;
        }

        /** A bit for each row of turns (its bits: 1 on, 0 back) that some corner allows. */
        private long patternsOf(int card, int many) {
            long all = 0L;
            for (int turns = 0; turns < many; turns++) {
                for (int corner = 0; corner < 4; corner++) {
                    if (isWay(card, corner, turns)) {
                        all |= 1L << turns;
                    }
                }
            }
            return all;
        }

        private boolean isWay(int card, int corner, int turns) {
            int twist = 0;
            for (int row = 0; row < front.rows; row++) {
                twist += (turns >> row & 1) == 1 ? 1 : -1;
                if (!inReach(twist) || !shows(row, card, corner + twist, false)) {
                    return false;
                }
            }
            return true;
        }

        private boolean agree(int alike, int many) {
            long common = -1L;
            for (int card = 0; card < belt.cards; card++) {
                long seen = 0L;
                for (int turns = 0; turns < many; turns++) {
                    if ((patternOf(card) >> turns & 1L) == 1L) {
                        seen |= 1L << (turns & alike);
                    }
                }
                common &= seen;
            }
            return common != 0L;
        }
    }

    /** A question, read into steps that leave one number for a row. */
    private static final class Question {
        private static final int MOST_OPEN = 6;
        private static final int DEEPEST = 100;
        private static final long HELD = 1000000L;
        private static final int MISSING = 99;

        private static final int SAY = 0;
        private static final int ROW = 1;
        private static final int BACK = 2;
        private static final int STILL = 3;
        private static final int FRONT = 4;
        private static final int BEHIND = 5;
        private static final int SLANT = 6;
        private static final int TWIST = 7;
        private static final int NOT = 8;
        private static final int ADD = 9;
        private static final int LESS = 10;
        private static final int TIMES = 11;
        private static final int PARTED = 12;
        private static final int MIN = 13;
        private static final int MAX = 14;
        private static final int BELOW = 15;
        private static final int ABOVE = 16;
        private static final int SAME = 17;
        private static final int AND = 18;
        private static final int OR = 19;

        private static final int FIRST = 0;
        private static final int LAST = 1;
        private static final int OFTEN = 2;
        private static final int TOTAL = 3;
        private static final int MOST = 4;
        private static final int LEAST = 5;

        private final Words words;
        private final Belt belt;
        private final int[] steps = new int[Tape.MOST];
        private final int[] numbers = new int[Tape.MOST];
        private final long[] pile = new long[DEEPEST];
        private int length;
        private int height;
        private int wanted;

        Question(Words words, Belt belt) {
            this.words = words;
            this.belt = belt;
        }

        boolean read() {
            length = 0;
            words.begin();
            wanted = words.isWord("first") ? FIRST : words.isWord("last") ? LAST
                    : words.isWord("often") ? OFTEN : words.isWord("total") ? TOTAL
                    : words.isWord("most") ? MOST : words.isWord("least") ? LEAST : NONE;
            if (wanted == NONE) {
                return words.failHere(1);
            }
            words.step();
            boolean good = wanted <= OFTEN ? readTest(0) : readSum(0);
            return good && (words.ended() || words.failHere(1));
        }

        /** A step, told by a word or mark that is already behind. */
        private boolean add(int step, int number) {
            Cells.put(steps, length, step);
            Cells.put(numbers, length, number);
            length++;
            return true;
        }

        private boolean stepAndAdd(int step, int number) {
            words.step();
            return add(step, number);
        }

        private boolean mayOpen(int open) {
            return open < MOST_OPEN || words.failHere(4);
        }

        private boolean readTest(int open) {
            boolean good = readBoth(open);
            for (int i = 0; i < Tape.MOST && good && words.isWord("or"); i++) {
                words.step();
                good = readBoth(open) && add(OR, 0);
            }
            return good;
        }

        private boolean readBoth(int open) {
            boolean good = readFact(open);
            for (int i = 0; i < Tape.MOST && good && words.isWord("and"); i++) {
                words.step();
                good = readFact(open) && add(AND, 0);
            }
            return good;
        }

        private boolean readFact(int open) {
            if (words.isWord("all")) {
                return stepAndAdd(SAY, 1);
            }
            boolean not = words.isWord("not");
            if (!not && !words.isMark('[')) {
                return readCompared(open);
            }
            if (!mayOpen(open)) {
                return false;
            }
            words.step();
            if (not) {
                return readFact(open + 1) && add(NOT, 0);
            }
            return readTest(open + 1) && words.takeMark(']');
        }

        private boolean readCompared(int open) {
            if (!readSum(open)) {
                return false;
            }
            int sign = words.isMark('<') ? BELOW : words.isMark('>') ? ABOVE
                    : words.isMark('=') ? SAME : NONE;
            if (sign == NONE) {
                return words.failHere(1);
            }
            words.step();
            return readSum(open) && add(sign, 0);
        }

        private boolean readSum(int open) {
            boolean good = readProduct(open);
            for (int i = 0; i < Tape.MOST && good
                    && (words.isMark('+') || words.isMark('-')); i++) {
                int sign = words.isMark('+') ? ADD : LESS;
                words.step();
                good = readProduct(open) && add(sign, 0);
            }
            return good;
        }

        private boolean readProduct(int open) {
            boolean good = readPart(open);
            for (int i = 0; i < Tape.MOST && good
                    && (words.isMark('*') || words.isMark('/')); i++) {
                int sign = words.isMark('*') ? TIMES : PARTED;
                words.step();
                good = readPart(open) && add(sign, 0);
            }
            return good;
        }

        private boolean readPart(int open) {
            if (words.isNumber()) {
                return words.mustBeNumber() && stepAndAdd(SAY, words.value);
            }
            int plain = words.isWord("row") ? ROW : words.isWord("back") ? BACK
                    : words.isWord("still") ? STILL : NONE;
            if (plain != NONE) {
                return stepAndAdd(plain, 0);
            }
            if (words.isWord("min") || words.isWord("max")) {
                return readPair(open);
            }
            int cell = words.isWord("front") ? FRONT : words.isWord("behind") ? BEHIND
                    : words.isWord("slant") ? SLANT : words.isWord("twist") ? TWIST : NONE;
            if (cell == NONE && !words.isMark('(')) {
                return words.failHere(1);
            }
            if (!mayOpen(open)) {
                return false;
            }
            words.step();
            if (cell != NONE) {
                return readPart(open + 1) && add(cell, 0);
            }
            return readSum(open + 1) && words.takeMark(')');
        }

        private boolean readPair(int open) {
            int step = words.isWord("min") ? MIN : MAX;
            words.step();
            if (!words.isMark('(')) {
                return words.failHere(1);
            }
            if (!mayOpen(open)) {
                return false;
            }
            words.step();
            return readSum(open + 1) && words.takeMark(',') && readSum(open + 1)
                    && words.takeMark(')') && add(step, 0);
        }

        long answer() {
            long first = NONE;
            long last = NONE;
            long total = 0L;
            long most = 0L;
            long least = 0L;
            for (int row = 0; row < belt.rows; row++) {
                long value = valueIn(row);
                if (value != 0L) {
                    first = first == NONE ? row : first;
                    last = row;
                }
                total += value;
                most = row == 0 ? value : Math.max(most, value);
                least = row == 0 ? value : Math.min(least, value);
            }
            switch (wanted) {
                case FIRST: return first;
                case LAST: return last;
                case MOST: return most;
                case LEAST: return least;
                default: return total;
            }
        }

        private void push(long value) {
            if (height >= 0 && height < pile.length) {
                pile[height] = value;
                height++;
            }
        }

        private long pop() {
            if (height <= 0 || height > pile.length) {
                return 0L;
            }
            height--;
            return pile[height];
        }

        private long valueIn(int row) {
            height = 0;
            for (int i = 0; i < length; i++) {
                int step = Cells.at(steps, i);
                if (step == SAY) {
                    push(Cells.at(numbers, i));
                } else if (step <= STILL) {
                    push(ofRow(step, row));
                } else if (step <= NOT) {
                    push(ofOne(step, row, pop()));
                } else {
                    long right = pop();
                    long left = pop();
                    push(ofTwo(step, left, right));
                }
            }
            return pop();
        }

        private long ofRow(int step, int row) {
            switch (step) {
                case BACK: return belt.turned(row, Belt.WENT_BACK);
                case STILL: return belt.turned(row, Belt.STAYED);
                default: return row;
            }
        }

        private long ofOne(int step, int row, long value) {
            if (step == NOT) {
                return value == 0L ? 1L : 0L;
            }
            boolean there = value >= 0L && value < belt.cards;
            int card = there ? (int) value : 0;
            switch (step) {
                case FRONT: return there ? belt.front(row, card) : MISSING;
                case BEHIND: return there ? belt.behind(row, card) : MISSING;
                case SLANT: return there ? belt.slant(row, card) : 0;
                default: return there ? belt.twistBehind(row, card) : 0;
            }
        }

        private static long held(long value) {
            return Math.max(-HELD, Math.min(HELD, value));
        }

        private static long ofTwo(int step, long left, long right) {
            switch (step) {
                case ADD: return held(left + right);
                case LESS: return held(left - right);
                case TIMES: return held(left * right);
                case PARTED: return right == 0L ? 0L : Math.floorDiv(left, right);
                case MIN: return Math.min(left, right);
                case MAX: return Math.max(left, right);
                case BELOW: return left < right ? 1L : 0L;
                case ABOVE: return left > right ? 1L : 0L;
                case SAME: return left == right ? 1L : 0L;
                case AND: return left & right;
                default: return left | right;
            }
        }
    }

    /** A belt as bytes. */
    private static final class Image {
        private static final int MOST = 2 + 5 * Loom.MOST_CARDS + Loom.MOST_CARDS * Belt.MOST_ROWS;
        private static final int SUM_START = 113;
        private static final int SUM_DIVISOR = 247;

        private final int[] bytes = new int[MOST];
        int length;

        int octetAt(int k) {
            return Cells.at(bytes, k);
        }

        private void add(int octet) {
            Cells.put(bytes, length, octet);
            length++;
        }

        private static int summed(int sum, int octet) {
            return (3 * sum + octet) % SUM_DIVISOR;
        }

        void write(Belt belt) {
            length = 0;
            add(belt.rows);
            for (int card = 0; card < belt.cards; card++) {
                add(belt.side(card));
                for (int corner = 0; corner < 4; corner++) {
                    add(belt.thread(card, corner));
                }
            }
            for (int row = 0; row < belt.rows; row++) {
                for (int card = 0; card < belt.cards; card++) {
                    add(belt.turnOf(row, card));
                }
            }
            int sum = SUM_START;
            for (int i = 0; i < length; i++) {
                sum = summed(sum, octetAt(i));
            }
            add(sum);
        }

        /** Whether the tape is an image of a belt with as many cards, and no turning of it is barred. */
        static boolean isOne(Tape tape, Belt belt, int colours) {
            int rows = tape.byteAt(0);
            if (rows < 0 || rows > Belt.MOST_ROWS
                    || tape.length != 2 + 5 * belt.cards + rows * belt.cards) {
                return false;
            }
            int sum = SUM_START;
            for (int i = 0; i < tape.length - 1; i++) {
                sum = summed(sum, tape.byteAt(i));
            }
            if (sum != tape.byteAt(tape.length - 1)) {
                return false;
            }
            for (int card = 0; card < belt.cards; card++) {
                if (!isCard(tape, card, colours) || !canTurn(tape, belt, card)) {
                    return false;
                }
            }
            return true;
        }

        private static boolean isCard(Tape tape, int card, int colours) {
            if (tape.byteAt(1 + 5 * card) > 1) {
                return false;
            }
            for (int corner = 0; corner < 4; corner++) {
                if (tape.byteAt(2 + 5 * card + corner) >= colours) {
                    return false;
                }
            }
            return true;
        }

        private static int turnAt(Tape tape, int cards, int row, int card) {
            return tape.byteAt(1 + 5 * cards + row * cards + card);
        }

        private static boolean canTurn(Tape tape, Belt belt, int card) {
            int twist = 0;
            for (int row = 0; row < tape.byteAt(0); row++) {
                int turn = turnAt(tape, belt.cards, row, card);
                if (turn > Belt.WENT_BACK) {
                    return false;
                }
                twist += Belt.quarters(turn, 0);
                if (twist > belt.limit || twist < -belt.limit) {
                    return false;
                }
            }
            return true;
        }

        static void bring(Tape tape, Belt belt) {
            for (int card = 0; card < belt.cards; card++) {
                belt.setSide(card, tape.byteAt(1 + 5 * card));
                for (int corner = 0; corner < 4; corner++) {
                    belt.setThread(card, corner, tape.byteAt(2 + 5 * card + corner));
                }
            }
            belt.rows = 0;
            for (int row = 0; row < tape.byteAt(0); row++) {
                int turning = 0;
                for (int card = 0; card < belt.cards; card++) {
                    turning |= turnAt(tape, belt.cards, row, card) << (2 * card);
                }
                belt.weave(turning);
            }
        }
    }
}
